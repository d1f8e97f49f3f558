set_option maxHeartbeats 4000000 in
set_option maxRecDepth 100000 in
theorem kX4_clearNotes (l : Launch) (D : va_G) (cI : ClassId) (fu : Nat) (a0 a1 a2 : Nat) (M : (Nat → Int32)) (SV : Int32) (MX : (Nat → Int32)) (ML : Int32) (MA : Int32) (MH : Int64) (o : Int32 × (Nat → Int32) × Int32) (hf : fX4_clearNotes fu M SV = some o) : Ct l yX4_clearNotes wsX4_clearNotes { frames := 2, cells := 0, slots := 0, locals := 44 } D cI [.ref a0] (wX4 cI a0 a1 a2 M SV MX ML MA MH) (wX4 cI a0 a1 a2 o.2.1 o.2.2 MX ML MA MH) (some (.int o.1)) := by
  refine Ct.of (cc := cX4_clearNotes) (maxL := 2) (ret := (some .int)) (by decide) rfl (Nat.le_of_ble_eq_true rfl) ?_
  intro p e s m args below meth c A F hP hD hS ls hl
  obtain ⟨hx, hb, hml, hr, hown, hts, hlk, hK, hA⟩ := F
  have hown : s.vm.findClass RX4 = some m.cls := hown
  have hl : lv_has ls 2 [(0, .ref a0)] := hl
  have hinX4 : ∀ w ∈ wsX40, w ∈ wsX4_clearNotes := by decide +kernel
  have hfl7 := hts (.fieldLink RX4 7 "CraneGuardModel" "row" "[I") (by decide +kernel)
  unfold fX4_clearNotes at hf
  refine lv_aload_n hx hb dX4_clearNotes_0 rfl (lv_at hl 0 rfl) ?_
  obtain ⟨v1, h2, hf⟩ := kBind hf
  refine kgoA (krunV (wc := (wX4 cI a0 a1 a2 M SV MX ML MA MH)) (As := []) (rest := []) (ci := 4) hx hb hml hown hts hK (kX4_saves l D cI fu a0 a1 a2 M SV MX ML MA MH v1 h2) gX4_clearNotes_X4_saves rfl rfl rfl hdX4_saves ⟨Nat.le_of_ble_eq_true rfl, Nat.le_of_ble_eq_true rfl⟩ hP hD rfl rfl rfl rfl hl.1 rfl (Nat.le_of_ble_eq_true rfl) dX4_clearNotes_1 ⟨Nat.zero_le _, Nat.zero_le _⟩) hD hS hA (fun H locs hP hD hS => ?_)
  refine lv_aload_n hx hb dX4_clearNotes_4 rfl (lv_at hl 0 rfl) ?_
  refine va_get (D := D) (ci := 4) (v := .ref a1) (C := RX4) (T := TX4) (N := 6) hx hb hts hinX4 hown hK.1 hP 0 rfl rfl 0 (by decide) hfl7 (fun _ h9 => h9) rfl dX4_clearNotes_5 ?_
  refine lv_iconst (v := (3 : Int32)) hx hb dX4_clearNotes_8 (by decide) ?_
  obtain ⟨v3, h4, hf⟩ := kBind hf
  refine krd hx hb hK hP 1 rfl h4 dX4_clearNotes_9 ?_
  refine lv_istore_n (lv' := [(1, .int v3), (0, .ref a0)]) hx hb dX4_clearNotes_10 rfl hl (by decide) rfl (fun ls hl => ?_)
  refine lv_aload_n hx hb dX4_clearNotes_11 rfl (lv_at hl 1 rfl) ?_
  refine va_get (D := D) (ci := 4) (v := .ref a1) (C := RX4) (T := TX4) (N := 6) hx hb hts hinX4 hown hK.1 hP 0 rfl rfl 0 (by decide) hfl7 (fun _ h9 => h9) rfl dX4_clearNotes_12 ?_
  refine lv_iconst (v := (3 : Int32)) hx hb dX4_clearNotes_15 (by decide) ?_
  refine lv_iconst (v := (0 : Int32)) hx hb dX4_clearNotes_16 (by decide) ?_
  obtain ⟨v5, h6, hf⟩ := kBind hf
  refine kwr hx hb hK hP hD hS 1 rfl h6 (wX4 cI a0 a1 a2 v5 v1.2 MX ML MA MH) rfl dX4_clearNotes_17 (fun H locs hP hD hS => ?_)
  refine lv_iload_n hx hb dX4_clearNotes_18 rfl (lv_at hl 0 rfl) ?_
  have he := Option.some.inj hf
  subst he
  exact kreti hx hb hr hlk hP hD hS dX4_clearNotes_19
set_option maxHeartbeats 4000000 in
set_option maxRecDepth 100000 in
theorem kX4_clearText (l : Launch) (D : va_G) (cI : ClassId) (a0 a1 a2 : Nat) (M : (Nat → Int32)) (SV : Int32) (MX : (Nat → Int32)) (ML : Int32) (MA : Int32) (MH : Int64) (o : Int32 × Int32) (hf : fX4_clearText ML = some o) : Ct l yX4_clearText wsX4_clearText { frames := 0, cells := 0, slots := 0, locals := 0 } D cI [.ref a0] (wX4 cI a0 a1 a2 M SV MX ML MA MH) (wX4 cI a0 a1 a2 M SV MX o.2 MA MH) (some (.int o.1)) := by
  refine Ct.of (cc := cX4_clearText) (maxL := 2) (ret := (some .int)) (by decide) rfl (Nat.le_of_ble_eq_true rfl) ?_
  intro p e s m args below meth c A F hP hD hS ls hl
  obtain ⟨hx, hb, hml, hr, hown, hts, hlk, hK, hA⟩ := F
  have hown : s.vm.findClass RX4 = some m.cls := hown
  have hl : lv_has ls 2 [(0, .ref a0)] := hl
  have hinX4 : ∀ w ∈ wsX40, w ∈ wsX4_clearText := by decide +kernel
  have hfl121 := hts (.fieldLink RX4 121 "CraneGuardModel" "length" "I") (by decide +kernel)
  unfold fX4_clearText at hf
  refine lv_aload_n hx hb dX4_clearText_0 rfl (lv_at hl 0 rfl) ?_
  refine va_get (D := D) (ci := 4) (v := .int ML) (C := RX4) (T := TX4) (N := 6) hx hb hts hinX4 hown hK.1 hP 0 rfl rfl 3 (by decide) hfl121 (fun _ h9 => h9) rfl dX4_clearText_1 ?_
  refine lv_istore_n (lv' := [(1, .int ML), (0, .ref a0)]) hx hb dX4_clearText_4 rfl hl (by decide) rfl (fun ls hl => ?_)
  refine lv_aload_n hx hb dX4_clearText_5 rfl (lv_at hl 1 rfl) ?_
  refine lv_iconst (v := (0 : Int32)) hx hb dX4_clearText_6 (by decide) ?_
  refine va_put (D := D) (ci := 4) (v := .int (0 : Int32)) (ty := .int) (C := RX4) (T := TX4) (N := 6) hx hb hts hinX4 tyX4 tyX4_ok nmX4 hown hK.1 hP hD hS 0 rfl rfl 3 (by decide) hfl121 (fun _ h9 => h9) rfl (by decide +kernel) rfl rfl (Nat.le_of_ble_eq_true rfl) dX4_clearText_7 (fun H locs hP hD hS => ?_)
  have hP : va_P D vwCl (wX4 cI a0 a1 a2 M SV MX (0 : Int32) MA MH) H := hP
  have hD : va_D A (wX4 cI a0 a1 a2 M SV MX (0 : Int32) MA MH) := hD
  refine lv_iload_n hx hb dX4_clearText_10 rfl (lv_at hl 0 rfl) ?_
  have he := Option.some.inj hf
  subst he
  exact kreti hx hb hr hlk hP hD hS dX4_clearText_11
set_option maxHeartbeats 4000000 in
set_option maxRecDepth 100000 in
theorem kX4_here (l : Launch) (D : va_G) (cI : ClassId) (fu : Nat) (a0 a1 a2 : Nat) (M : (Nat → Int32)) (SV : Int32) (MX : (Nat → Int32)) (ML : Int32) (MA : Int32) (MH : Int64) (o : Int32 × Int32) (hf : fX4_here fu MX ML MA = some o) : Ct l yX4_here wsX4_here { frames := 0, cells := 0, slots := 0, locals := 0 } D cI [.ref a0] (wX4 cI a0 a1 a2 M SV MX ML MA MH) (wX4 cI a0 a1 a2 M SV MX ML o.2 MH) (some (.int o.1)) := by
  refine Ct.of (cc := cX4_here) (maxL := 1) (ret := (some .int)) (by decide) rfl (Nat.le_of_ble_eq_true rfl) ?_
  intro p e s m args below meth c A F hP hD hS ls hl
  obtain ⟨hx, hb, hml, hr, hown, hts, hlk, hK, hA⟩ := F
  have hown : s.vm.findClass RX4 = some m.cls := hown
  have hl : lv_has ls 1 [(0, .ref a0)] := hl
  have hinX4 : ∀ w ∈ wsX40, w ∈ wsX4_here := by decide +kernel
  have hfl13 := hts (.fieldLink RX4 13 "CraneGuardModel" "text" "[I") (by decide +kernel)
  have hfl121 := hts (.fieldLink RX4 121 "CraneGuardModel" "length" "I") (by decide +kernel)
  have hfl124 := hts (.fieldLink RX4 124 "CraneGuardModel" "at" "I") (by decide +kernel)
  unfold fX4_here at hf
  have hl : lv_has ls 1 [(0, .ref a0)] := hl
  refine klp hf (fun t0 : Int32 => (wX4 cI a0 a1 a2 M SV MX ML t0 MH)) 1 (fun t0 : Int32 => [(0, .ref a0)]) ?_ hP hD hS hl
  intro t0 x0_ hf hI1 hO1 H locs ls hP hD hS hl
  unfold fX4_here_L0 at hf
  have hP : va_P D vwCl (wX4 cI a0 a1 a2 M SV MX ML t0 MH) H := hP
  have hD : va_D A (wX4 cI a0 a1 a2 M SV MX ML t0 MH) := hD
  have hl : lv_has ls 1 [(0, .ref a0)] := hl
  refine lv_aload_n hx hb dX4_here_0 rfl (lv_at hl 0 rfl) ?_
  refine va_get (D := D) (ci := 4) (v := .int t0) (C := RX4) (T := TX4) (N := 6) hx hb hts hinX4 hown hK.1 hP 0 rfl rfl 4 (by decide) hfl124 (fun _ h9 => h9) rfl dX4_here_1 ?_
  refine lv_aload_n hx hb dX4_here_4 rfl (lv_at hl 0 rfl) ?_
  refine va_get (D := D) (ci := 4) (v := .int ML) (C := RX4) (T := TX4) (N := 6) hx hb hts hinX4 hown hK.1 hP 0 rfl rfl 3 (by decide) hfl121 (fun _ h9 => h9) rfl dX4_here_5 ?_
  refine lv_icmp_ge (tgt := 38) hx hb dX4_here_8 (by decide) (fun c12 => ?_) (fun c12 => ?_)
  · have hf := kIfT c12 hf
    refine lv_aload_n hx hb dX4_here_38 rfl (lv_at hl 0 rfl) ?_
    refine va_get (D := D) (ci := 4) (v := .int t0) (C := RX4) (T := TX4) (N := 6) hx hb hts hinX4 hown hK.1 hP 0 rfl rfl 4 (by decide) hfl124 (fun _ h9 => h9) rfl dX4_here_39 ?_
    refine lv_aload_n hx hb dX4_here_42 rfl (lv_at hl 0 rfl) ?_
    refine va_get (D := D) (ci := 4) (v := .int ML) (C := RX4) (T := TX4) (N := 6) hx hb hts hinX4 hown hK.1 hP 0 rfl rfl 3 (by decide) hfl121 (fun _ h9 => h9) rfl dX4_here_43 ?_
    refine lv_icmp_ge (tgt := 61) hx hb dX4_here_46 (by decide) (fun c13 => ?_) (fun c13 => ?_)
    · have hf := kIfT c13 hf
      refine lv_iconst (v := (-1 : Int32)) hx hb dX4_here_61 (by decide) ?_
      have he := Option.some.inj hf
      have he := hO1 _ he.symm
      subst he
      exact kreti hx hb hr hlk hP hD hS dX4_here_62
    · have hf := kIfF c13 hf
      refine lv_aload_n hx hb dX4_here_49 rfl (lv_at hl 0 rfl) ?_
      refine va_get (D := D) (ci := 4) (v := .ref a2) (C := RX4) (T := TX4) (N := 6) hx hb hts hinX4 hown hK.1 hP 0 rfl rfl 2 (by decide) hfl13 (fun _ h9 => h9) rfl dX4_here_50 ?_
      refine lv_aload_n hx hb dX4_here_53 rfl (lv_at hl 0 rfl) ?_
      refine va_get (D := D) (ci := 4) (v := .int t0) (C := RX4) (T := TX4) (N := 6) hx hb hts hinX4 hown hK.1 hP 0 rfl rfl 4 (by decide) hfl124 (fun _ h9 => h9) rfl dX4_here_54 ?_
      obtain ⟨v14, h15, hf⟩ := kBind hf
      refine krd hx hb hK hP 2 rfl h15 dX4_here_57 ?_
      refine lv_goto (tgt := 62) hx hb dX4_here_58 (by decide) ?_
      have he := Option.some.inj hf
      have he := hO1 _ he.symm
      subst he
      exact kreti hx hb hr hlk hP hD hS dX4_here_62
  · have hf := kIfF c12 hf
    refine lv_aload_n hx hb dX4_here_11 rfl (lv_at hl 0 rfl) ?_
    refine va_get (D := D) (ci := 4) (v := .ref a2) (C := RX4) (T := TX4) (N := 6) hx hb hts hinX4 hown hK.1 hP 0 rfl rfl 2 (by decide) hfl13 (fun _ h9 => h9) rfl dX4_here_12 ?_
    refine lv_aload_n hx hb dX4_here_15 rfl (lv_at hl 0 rfl) ?_
    refine va_get (D := D) (ci := 4) (v := .int t0) (C := RX4) (T := TX4) (N := 6) hx hb hts hinX4 hown hK.1 hP 0 rfl rfl 4 (by decide) hfl124 (fun _ h9 => h9) rfl dX4_here_16 ?_
    obtain ⟨v16, h17, hf⟩ := kBind hf
    refine krd hx hb hK hP 2 rfl h17 dX4_here_19 ?_
    refine lv_bipush (v := (32 : Int32)) hx hb dX4_here_20 (by decide) ?_
    refine lv_icmp_ne (tgt := 38) hx hb dX4_here_22 (by decide) (fun c18 => ?_) (fun c18 => ?_)
    · have hf := kIfF c18 hf
      refine lv_aload_n hx hb dX4_here_38 rfl (lv_at hl 0 rfl) ?_
      refine va_get (D := D) (ci := 4) (v := .int t0) (C := RX4) (T := TX4) (N := 6) hx hb hts hinX4 hown hK.1 hP 0 rfl rfl 4 (by decide) hfl124 (fun _ h9 => h9) rfl dX4_here_39 ?_
      refine lv_aload_n hx hb dX4_here_42 rfl (lv_at hl 0 rfl) ?_
      refine va_get (D := D) (ci := 4) (v := .int ML) (C := RX4) (T := TX4) (N := 6) hx hb hts hinX4 hown hK.1 hP 0 rfl rfl 3 (by decide) hfl121 (fun _ h9 => h9) rfl dX4_here_43 ?_
      refine lv_icmp_ge (tgt := 61) hx hb dX4_here_46 (by decide) (fun c19 => ?_) (fun c19 => ?_)
      · have hf := kIfT c19 hf
        refine lv_iconst (v := (-1 : Int32)) hx hb dX4_here_61 (by decide) ?_
        have he := Option.some.inj hf
        have he := hO1 _ he.symm
        subst he
        exact kreti hx hb hr hlk hP hD hS dX4_here_62
      · have hf := kIfF c19 hf
        refine lv_aload_n hx hb dX4_here_49 rfl (lv_at hl 0 rfl) ?_
        refine va_get (D := D) (ci := 4) (v := .ref a2) (C := RX4) (T := TX4) (N := 6) hx hb hts hinX4 hown hK.1 hP 0 rfl rfl 2 (by decide) hfl13 (fun _ h9 => h9) rfl dX4_here_50 ?_
        refine lv_aload_n hx hb dX4_here_53 rfl (lv_at hl 0 rfl) ?_
        refine va_get (D := D) (ci := 4) (v := .int t0) (C := RX4) (T := TX4) (N := 6) hx hb hts hinX4 hown hK.1 hP 0 rfl rfl 4 (by decide) hfl124 (fun _ h9 => h9) rfl dX4_here_54 ?_
        obtain ⟨v20, h21, hf⟩ := kBind hf
        refine krd hx hb hK hP 2 rfl h21 dX4_here_57 ?_
        refine lv_goto (tgt := 62) hx hb dX4_here_58 (by decide) ?_
        have he := Option.some.inj hf
        have he := hO1 _ he.symm
        subst he
        exact kreti hx hb hr hlk hP hD hS dX4_here_62
    · have hf := kIfT c18 hf
      refine lv_aload_n hx hb dX4_here_25 rfl (lv_at hl 0 rfl) ?_
      refine lv_dup hx hb dX4_here_26 rfl ?_
      refine va_get (D := D) (ci := 4) (v := .int t0) (C := RX4) (T := TX4) (N := 6) hx hb hts hinX4 hown hK.1 hP 0 rfl rfl 4 (by decide) hfl124 (fun _ h9 => h9) rfl dX4_here_27 ?_
      refine lv_iconst (v := (1 : Int32)) hx hb dX4_here_30 (by decide) ?_
      refine lv_iadd hx hb dX4_here_31 ?_
      refine va_put (D := D) (ci := 4) (v := .int (t0 + (1 : Int32))) (ty := .int) (C := RX4) (T := TX4) (N := 6) hx hb hts hinX4 tyX4 tyX4_ok nmX4 hown hK.1 hP hD hS 0 rfl rfl 4 (by decide) hfl124 (fun _ h9 => h9) rfl (by decide +kernel) rfl rfl (Nat.le_of_ble_eq_true rfl) dX4_here_32 (fun H locs hP hD hS => ?_)
      have hP : va_P D vwCl (wX4 cI a0 a1 a2 M SV MX ML (t0 + (1 : Int32)) MH) H := hP
      have hD : va_D A (wX4 cI a0 a1 a2 M SV MX ML (t0 + (1 : Int32)) MH) := hD
      refine lv_goto (tgt := 0) hx hb dX4_here_35 (by decide) ?_
      obtain ⟨z22, hz22⟩ : ∃ z : Int32, z = t0 + (1 : Int32) := ⟨_, rfl⟩
      rw [← hz22] at hf
      have hP : va_P D vwCl (wX4 cI a0 a1 a2 M SV MX ML z22 MH) H := by rw [hz22]; exact hP
      have hD : va_D A (wX4 cI a0 a1 a2 M SV MX ML z22 MH) := by rw [hz22]; exact hD
      have he := (Option.some.inj hf).symm
      have hl : lv_has ls 1 [(0, .ref a0)] := lv_sub hl [0] rfl
      exact hI1 _ he H locs ls hP hD hS hl
set_option maxHeartbeats 4000000 in
set_option maxRecDepth 100000 in
theorem kX4_mayNotAim (l : Launch) (D : va_G) (cI : ClassId) (a0 a1 a2 : Nat) (M : (Nat → Int32)) (SV : Int32) (MX : (Nat → Int32)) (ML : Int32) (MA : Int32) (MH : Int64) (x1 : Int32) (o : Bool) (hf : fX4_mayNotAim M x1 = some o) : Ct l yX4_mayNotAim wsX4_mayNotAim { frames := 2, cells := 0, slots := 0, locals := 43 } D cI [.ref a0, .int x1] (wX4 cI a0 a1 a2 M SV MX ML MA MH) (wX4 cI a0 a1 a2 M SV MX ML MA MH) (some (.int (bI o))) := by
  refine Ct.of (cc := cX4_mayNotAim) (maxL := 2) (ret := (some .boolean)) (by decide) rfl (Nat.le_of_ble_eq_true rfl) ?_
  intro p e s m args below meth c A F hP hD hS ls hl
  obtain ⟨hx, hb, hml, hr, hown, hts, hlk, hK, hA⟩ := F
  have hown : s.vm.findClass RX4 = some m.cls := hown
  have hl : lv_has ls 2 [(0, .ref a0), (1, .int x1)] := hl
  unfold fX4_mayNotAim at hf
  refine lv_aload_n hx hb dX4_mayNotAim_0 rfl (lv_at hl 0 rfl) ?_
  refine lv_iload_n hx hb dX4_mayNotAim_1 rfl (lv_at hl 1 rfl) ?_
  obtain ⟨v1, h2, hf⟩ := kBind hf
  refine kgoR (krunV (wc := (wX4 cI a0 a1 a2 M SV MX ML MA MH)) (As := [.int x1]) (rest := []) (ci := 4) hx hb hml hown hts hK (kX4_isOnStep l D cI a0 a1 a2 M SV MX ML MA MH x1 v1 h2) gX4_mayNotAim_X4_isOnStep rfl rfl rfl hdX4_isOnStep ⟨Nat.le_of_ble_eq_true rfl, Nat.le_of_ble_eq_true rfl⟩ hP hD rfl rfl rfl rfl hl.1 rfl (Nat.le_of_ble_eq_true rfl) dX4_mayNotAim_2 ⟨Nat.zero_le _, Nat.zero_le _⟩) hP hD hS hA [0, 1, 2] rfl (fun H locs hP hS => ?_)
  refine kif_neb (tgt := 19) hx hb dX4_mayNotAim_5 (by decide) (fun c3 => ?_) (fun c3 => ?_)
  · have hf := kIfT c3 hf
    refine lv_iconst (v := (1 : Int32)) hx hb dX4_mayNotAim_19 (by decide) ?_
    refine lv_goto (tgt := 24) hx hb dX4_mayNotAim_20 (by decide) ?_
    have he := Option.some.inj hf
    subst he
    exact kretz hx hb hr hlk hP hD hS dX4_mayNotAim_24
  · have hf := kIfF c3 hf
    refine lv_aload_n hx hb dX4_mayNotAim_8 rfl (lv_at hl 0 rfl) ?_
    refine lv_iload_n hx hb dX4_mayNotAim_9 rfl (lv_at hl 1 rfl) ?_
    refine lv_bipush (v := (7 : Int32)) hx hb dX4_mayNotAim_10 (by decide) ?_
    obtain ⟨v4, h5, hf⟩ := kBind hf
    refine kgoR (krunV (wc := (wX4 cI a0 a1 a2 M SV MX ML MA MH)) (As := [.int x1, .int (7 : Int32)]) (rest := []) (ci := 4) hx hb hml hown hts hK (kX4_of l D cI a0 a1 a2 M SV MX ML MA MH x1 (7 : Int32) v4 h5) gX4_mayNotAim_X4_of rfl rfl rfl hdX4_of ⟨Nat.le_of_ble_eq_true rfl, Nat.le_of_ble_eq_true rfl⟩ hP hD rfl rfl rfl rfl hl.1 rfl (Nat.le_of_ble_eq_true rfl) dX4_mayNotAim_12 ⟨Nat.zero_le _, Nat.zero_le _⟩) hP hD hS hA [0, 1, 2] rfl (fun H locs hP hS => ?_)
    refine lv_iconst (v := (1 : Int32)) hx hb dX4_mayNotAim_15 (by decide) ?_
    refine lv_icmp_ne (tgt := 23) hx hb dX4_mayNotAim_16 (by decide) (fun c6 => ?_) (fun c6 => ?_)
    · have hf := kIfF c6 hf
      refine lv_iconst (v := (0 : Int32)) hx hb dX4_mayNotAim_23 (by decide) ?_
      have he := Option.some.inj hf
      subst he
      exact kretz hx hb hr hlk hP hD hS dX4_mayNotAim_24
    · have hf := kIfT c6 hf
      refine lv_iconst (v := (1 : Int32)) hx hb dX4_mayNotAim_19 (by decide) ?_
      refine lv_goto (tgt := 24) hx hb dX4_mayNotAim_20 (by decide) ?_
      have he := Option.some.inj hf
      subst he
      exact kretz hx hb hr hlk hP hD hS dX4_mayNotAim_24
set_option maxHeartbeats 4000000 in
set_option maxRecDepth 100000 in
theorem kX4_readsCommand (l : Launch) (D : va_G) (cI : ClassId) (fu : Nat) (a0 a1 a2 : Nat) (M : (Nat → Int32)) (SV : Int32) (MX : (Nat → Int32)) (ML : Int32) (MA : Int32) (MH : Int64) (x1 : Bool) (o : Bool × (Nat → Int32) × Int32) (hf : fX4_readsCommand fu M MX ML MA x1 = some o) : Ct l yX4_readsCommand wsX4_readsCommand { frames := 3, cells := 0, slots := 0, locals := 70 } D cI [.ref a0, .int (bI x1)] (wX4 cI a0 a1 a2 M SV MX ML MA MH) (wX4 cI a0 a1 a2 o.2.1 SV MX ML o.2.2 MH) (some (.int (bI o.1))) := by
  refine Ct.of (cc := cX4_readsCommand) (maxL := 8) (ret := (some .boolean)) (by decide) rfl (Nat.le_of_ble_eq_true rfl) ?_
  intro p e s m args below meth c A F hP hD hS ls hl
  obtain ⟨hx, hb, hml, hr, hown, hts, hlk, hK, hA⟩ := F
  have hown : s.vm.findClass RX4 = some m.cls := hown
  have hl : lv_has ls 8 [(0, .ref a0), (1, .int (bI x1))] := hl
  have hinX4 : ∀ w ∈ wsX40, w ∈ wsX4_readsCommand := by decide +kernel
  have hfl13 := hts (.fieldLink RX4 13 "CraneGuardModel" "text" "[I") (by decide +kernel)
  have hfl121 := hts (.fieldLink RX4 121 "CraneGuardModel" "length" "I") (by decide +kernel)
  have hfl124 := hts (.fieldLink RX4 124 "CraneGuardModel" "at" "I") (by decide +kernel)
  unfold fX4_readsCommand at hf
  refine lv_aload_n hx hb dX4_readsCommand_0 rfl (lv_at hl 0 rfl) ?_
  obtain ⟨v1, h2, hf⟩ := kBind hf
  refine kgoA (krunV (wc := (wX4 cI a0 a1 a2 M SV MX ML MA MH)) (As := []) (rest := []) (ci := 4) hx hb hml hown hts hK (kX4_here l D cI fu a0 a1 a2 M SV MX ML MA MH v1 h2) gX4_readsCommand_X4_here rfl rfl rfl hdX4_here ⟨Nat.le_of_ble_eq_true rfl, Nat.le_of_ble_eq_true rfl⟩ hP hD rfl rfl rfl rfl hl.1 rfl (Nat.le_of_ble_eq_true rfl) dX4_readsCommand_1 ⟨Nat.zero_le _, Nat.zero_le _⟩) hD hS hA (fun H locs hP hD hS => ?_)
  refine lv_bipush (v := (48 : Int32)) hx hb dX4_readsCommand_4 (by decide) ?_
  refine lv_isub hx hb dX4_readsCommand_6 ?_
  refine lv_istore_n (lv' := [(2, .int (v1.1 - (48 : Int32))), (0, .ref a0), (1, .int (bI x1))]) hx hb dX4_readsCommand_7 rfl hl (by decide) rfl (fun ls hl => ?_)
  refine lv_aload_n hx hb dX4_readsCommand_8 rfl (lv_at hl 1 rfl) ?_
  refine lv_iload_n hx hb dX4_readsCommand_9 rfl (lv_at hl 0 rfl) ?_
  obtain ⟨v3, h4, hf⟩ := kBind hf
  refine kgoR (krunV (wc := (wX4 cI a0 a1 a2 M SV MX ML v1.2 MH)) (As := [.int (v1.1 - (48 : Int32))]) (rest := []) (ci := 4) hx hb hml hown hts hK (kX4_isCrane l D cI a0 a1 a2 M SV MX ML v1.2 MH (v1.1 - (48 : Int32)) v3 h4) gX4_readsCommand_X4_isCrane rfl rfl rfl hdX4_isCrane ⟨Nat.le_of_ble_eq_true rfl, Nat.le_of_ble_eq_true rfl⟩ hP hD rfl rfl rfl rfl hl.1 rfl (Nat.le_of_ble_eq_true rfl) dX4_readsCommand_10 ⟨Nat.zero_le _, Nat.zero_le _⟩) hP hD hS hA [0, 1, 2] rfl (fun H locs hP hS => ?_)
  refine kif_eqb (tgt := 24) hx hb dX4_readsCommand_13 (by decide) (fun c5 => ?_) (fun c5 => ?_)
  · have hf := kIfF c5 hf
    refine lv_iconst (v := (0 : Int32)) hx hb dX4_readsCommand_24 (by decide) ?_
    have he := Option.some.inj hf
    subst he
    exact kretz hx hb hr hlk hP hD hS dX4_readsCommand_25
  · have hf := kIfT c5 hf
    refine lv_aload_n hx hb dX4_readsCommand_16 rfl (lv_at hl 1 rfl) ?_
    refine lv_iload_n hx hb dX4_readsCommand_17 rfl (lv_at hl 0 rfl) ?_
    obtain ⟨v6, h7, hf⟩ := kBind hf
    refine kgoR (krunV (wc := (wX4 cI a0 a1 a2 M SV MX ML v1.2 MH)) (As := [.int (v1.1 - (48 : Int32))]) (rest := []) (ci := 4) hx hb hml hown hts hK (kX4_mayNotAim l D cI a0 a1 a2 M SV MX ML v1.2 MH (v1.1 - (48 : Int32)) v6 h7) gX4_readsCommand_X4_mayNotAim rfl rfl rfl hdX4_mayNotAim ⟨Nat.le_of_ble_eq_true rfl, Nat.le_of_ble_eq_true rfl⟩ hP hD rfl rfl rfl rfl hl.1 rfl (Nat.le_of_ble_eq_true rfl) dX4_readsCommand_18 ⟨Nat.zero_le _, Nat.zero_le _⟩) hP hD hS hA [0, 1, 2] rfl (fun H locs hP hS => ?_)
    refine kif_eqb (tgt := 26) hx hb dX4_readsCommand_21 (by decide) (fun c8 => ?_) (fun c8 => ?_)
    · have hf := kIfF c8 hf
      refine lv_aload_n hx hb dX4_readsCommand_26 rfl (lv_at hl 1 rfl) ?_
      refine lv_dup hx hb dX4_readsCommand_27 rfl ?_
      refine va_get (D := D) (ci := 4) (v := .int v1.2) (C := RX4) (T := TX4) (N := 6) hx hb hts hinX4 hown hK.1 hP 0 rfl rfl 4 (by decide) hfl124 (fun _ h9 => h9) rfl dX4_readsCommand_28 ?_
      refine lv_iconst (v := (1 : Int32)) hx hb dX4_readsCommand_31 (by decide) ?_
      refine lv_iadd hx hb dX4_readsCommand_32 ?_
      refine va_put (D := D) (ci := 4) (v := .int (v1.2 + (1 : Int32))) (ty := .int) (C := RX4) (T := TX4) (N := 6) hx hb hts hinX4 tyX4 tyX4_ok nmX4 hown hK.1 hP hD hS 0 rfl rfl 4 (by decide) hfl124 (fun _ h9 => h9) rfl (by decide +kernel) rfl rfl (Nat.le_of_ble_eq_true rfl) dX4_readsCommand_33 (fun H locs hP hD hS => ?_)
      have hP : va_P D vwCl (wX4 cI a0 a1 a2 M SV MX ML (v1.2 + (1 : Int32)) MH) H := hP
      have hD : va_D A (wX4 cI a0 a1 a2 M SV MX ML (v1.2 + (1 : Int32)) MH) := hD
      refine lv_aload_n hx hb dX4_readsCommand_36 rfl (lv_at hl 1 rfl) ?_
      obtain ⟨v9, h10, hf⟩ := kBind hf
      refine kgoA (krunV (wc := (wX4 cI a0 a1 a2 M SV MX ML (v1.2 + (1 : Int32)) MH)) (As := []) (rest := []) (ci := 4) hx hb hml hown hts hK (kX4_here l D cI fu a0 a1 a2 M SV MX ML (v1.2 + (1 : Int32)) MH v9 h10) gX4_readsCommand_X4_here rfl rfl rfl hdX4_here ⟨Nat.le_of_ble_eq_true rfl, Nat.le_of_ble_eq_true rfl⟩ hP hD rfl rfl rfl rfl hl.1 rfl (Nat.le_of_ble_eq_true rfl) dX4_readsCommand_37 ⟨Nat.zero_le _, Nat.zero_le _⟩) hD hS hA (fun H locs hP hD hS => ?_)
      refine lv_istore_n (lv' := [(3, .int v9.1), (2, .int (v1.1 - (48 : Int32))), (0, .ref a0), (1, .int (bI x1))]) hx hb dX4_readsCommand_40 rfl hl (by decide) rfl (fun ls hl => ?_)
      refine lv_iload_n hx hb dX4_readsCommand_41 rfl (lv_at hl 0 rfl) ?_
      refine lv_bipush (v := (62 : Int32)) hx hb dX4_readsCommand_42 (by decide) ?_
      refine lv_icmp_eq (tgt := 61) hx hb dX4_readsCommand_44 (by decide) (fun c11 => ?_) (fun c11 => ?_)
      · have hf := kIfT c11 hf
        refine lv_aload_n hx hb dX4_readsCommand_61 rfl (lv_at hl 2 rfl) ?_
        refine lv_dup hx hb dX4_readsCommand_62 rfl ?_
        refine va_get (D := D) (ci := 4) (v := .int v9.2) (C := RX4) (T := TX4) (N := 6) hx hb hts hinX4 hown hK.1 hP 0 rfl rfl 4 (by decide) hfl124 (fun _ h9 => h9) rfl dX4_readsCommand_63 ?_
        refine lv_iconst (v := (1 : Int32)) hx hb dX4_readsCommand_66 (by decide) ?_
        refine lv_iadd hx hb dX4_readsCommand_67 ?_
        refine va_put (D := D) (ci := 4) (v := .int (v9.2 + (1 : Int32))) (ty := .int) (C := RX4) (T := TX4) (N := 6) hx hb hts hinX4 tyX4 tyX4_ok nmX4 hown hK.1 hP hD hS 0 rfl rfl 4 (by decide) hfl124 (fun _ h9 => h9) rfl (by decide +kernel) rfl rfl (Nat.le_of_ble_eq_true rfl) dX4_readsCommand_68 (fun H locs hP hD hS => ?_)
        have hP : va_P D vwCl (wX4 cI a0 a1 a2 M SV MX ML (v9.2 + (1 : Int32)) MH) H := hP
        have hD : va_D A (wX4 cI a0 a1 a2 M SV MX ML (v9.2 + (1 : Int32)) MH) := hD
        refine lv_aload_n hx hb dX4_readsCommand_71 rfl (lv_at hl 2 rfl) ?_
        obtain ⟨v12, h13, hf⟩ := kBind hf
        refine kgoA (krunV (wc := (wX4 cI a0 a1 a2 M SV MX ML (v9.2 + (1 : Int32)) MH)) (As := []) (rest := []) (ci := 4) hx hb hml hown hts hK (kX4_here l D cI fu a0 a1 a2 M SV MX ML (v9.2 + (1 : Int32)) MH v12 h13) gX4_readsCommand_X4_here rfl rfl rfl hdX4_here ⟨Nat.le_of_ble_eq_true rfl, Nat.le_of_ble_eq_true rfl⟩ hP hD rfl rfl rfl rfl hl.1 rfl (Nat.le_of_ble_eq_true rfl) dX4_readsCommand_72 ⟨Nat.zero_le _, Nat.zero_le _⟩) hD hS hA (fun H locs hP hD hS => ?_)
        refine lv_istore (lv' := [(4, .int v12.1), (3, .int v9.1), (2, .int (v1.1 - (48 : Int32))), (0, .ref a0), (1, .int (bI x1))]) hx hb dX4_readsCommand_75 hl (by decide) rfl (fun ls hl => ?_)
        refine lv_aload_n hx hb dX4_readsCommand_77 rfl (lv_at hl 3 rfl) ?_
        refine va_get (D := D) (ci := 4) (v := .int v12.2) (C := RX4) (T := TX4) (N := 6) hx hb hts hinX4 hown hK.1 hP 0 rfl rfl 4 (by decide) hfl124 (fun _ h9 => h9) rfl dX4_readsCommand_78 ?_
        refine lv_istore (lv' := [(5, .int v12.2), (4, .int v12.1), (3, .int v9.1), (2, .int (v1.1 - (48 : Int32))), (0, .ref a0), (1, .int (bI x1))]) hx hb dX4_readsCommand_81 hl (by decide) rfl (fun ls hl => ?_)
        refine lv_iconst (v := (0 : Int32)) hx hb dX4_readsCommand_83 (by decide) ?_
        refine lv_istore (lv' := [(6, .int (0 : Int32)), (5, .int v12.2), (4, .int v12.1), (3, .int v9.1), (2, .int (v1.1 - (48 : Int32))), (0, .ref a0), (1, .int (bI x1))]) hx hb dX4_readsCommand_84 hl (by decide) rfl (fun ls hl => ?_)
        have hl : lv_has ls 8 [(6, .int (0 : Int32)), (5, .int v12.2), (4, .int v12.1), (3, .int v9.1), (2, .int (v1.1 - (48 : Int32))), (0, .ref a0), (1, .int (bI x1))] := hl
        refine klp hf (fun t86 : Int32 × Int32 => (wX4 cI a0 a1 a2 M SV MX ML v12.2 MH)) 8 (fun t86 : Int32 × Int32 => [(6, .int t86.2), (5, .int t86.1), (4, .int v12.1), (3, .int v9.1), (2, .int (v1.1 - (48 : Int32))), (0, .ref a0), (1, .int (bI x1))]) ?_ hP hD hS hl
        intro t86 x86_ hf hI1 hO1 H locs ls hP hD hS hl
        unfold fX4_readsCommand_L86 at hf
        have hP : va_P D vwCl (wX4 cI a0 a1 a2 M SV MX ML v12.2 MH) H := hP
        have hD : va_D A (wX4 cI a0 a1 a2 M SV MX ML v12.2 MH) := hD
        have hl : lv_has ls 8 [(6, .int t86.2), (5, .int t86.1), (4, .int v12.1), (3, .int v9.1), (2, .int (v1.1 - (48 : Int32))), (0, .ref a0), (1, .int (bI x1))] := hl
        refine lv_iload hx hb dX4_readsCommand_86 (lv_at hl 2 rfl) ?_
        refine lv_if_lt (tgt := 157) hx hb dX4_readsCommand_88 (by decide) (fun c63 => ?_) (fun c63 => ?_)
        · have hf := kIfT c63 hf
          refine lv_iload hx hb dX4_readsCommand_157 (lv_at hl 1 rfl) ?_
          refine lv_aload_n hx hb dX4_readsCommand_159 rfl (lv_at hl 5 rfl) ?_
          refine va_get (D := D) (ci := 4) (v := .int v12.2) (C := RX4) (T := TX4) (N := 6) hx hb hts hinX4 hown hK.1 hP 0 rfl rfl 4 (by decide) hfl124 (fun _ h9 => h9) rfl dX4_readsCommand_160 ?_
          refine lv_icmp_eq (tgt := 184) hx hb dX4_readsCommand_163 (by decide) (fun c64 => ?_) (fun c64 => ?_)
          · have hf := kIfT c64 hf
            refine lv_iconst (v := (0 : Int32)) hx hb dX4_readsCommand_184 (by decide) ?_
            have he := Option.some.inj hf
            have he := hO1 _ he.symm
            subst he
            exact kretz hx hb hr hlk hP hD hS dX4_readsCommand_185
          · have hf := kIfF c64 hf
            refine lv_iload hx hb dX4_readsCommand_166 (lv_at hl 1 rfl) ?_
            refine lv_aload_n hx hb dX4_readsCommand_168 rfl (lv_at hl 5 rfl) ?_
            refine va_get (D := D) (ci := 4) (v := .int v12.2) (C := RX4) (T := TX4) (N := 6) hx hb hts hinX4 hown hK.1 hP 0 rfl rfl 4 (by decide) hfl124 (fun _ h9 => h9) rfl dX4_readsCommand_169 ?_
            refine lv_isub hx hb dX4_readsCommand_172 ?_
            refine lv_iconst (v := (2 : Int32)) hx hb dX4_readsCommand_173 (by decide) ?_
            refine lv_icmp_gt (tgt := 184) hx hb dX4_readsCommand_174 (by decide) (fun c65 => ?_) (fun c65 => ?_)
            · have hf := kIfT c65 hf
              refine lv_iconst (v := (0 : Int32)) hx hb dX4_readsCommand_184 (by decide) ?_
              have he := Option.some.inj hf
              have he := hO1 _ he.symm
              subst he
              exact kretz hx hb hr hlk hP hD hS dX4_readsCommand_185
            · have hf := kIfF c65 hf
              refine lv_iload hx hb dX4_readsCommand_177 (lv_at hl 0 rfl) ?_
              refine lv_bipush (v := (35 : Int32)) hx hb dX4_readsCommand_179 (by decide) ?_
              refine lv_icmp_le (tgt := 186) hx hb dX4_readsCommand_181 (by decide) (fun c66 => ?_) (fun c66 => ?_)
              · have hf := kIfT c66 hf
                refine lv_aload_n hx hb dX4_readsCommand_186 rfl (lv_at hl 5 rfl) ?_
                refine lv_iload hx hb dX4_readsCommand_187 (lv_at hl 1 rfl) ?_
                refine va_put (D := D) (ci := 4) (v := .int t86.1) (ty := .int) (C := RX4) (T := TX4) (N := 6) hx hb hts hinX4 tyX4 tyX4_ok nmX4 hown hK.1 hP hD hS 0 rfl rfl 4 (by decide) hfl124 (fun _ h9 => h9) rfl (by decide +kernel) rfl rfl (Nat.le_of_ble_eq_true rfl) dX4_readsCommand_189 (fun H locs hP hD hS => ?_)
                have hP : va_P D vwCl (wX4 cI a0 a1 a2 M SV MX ML t86.1 MH) H := hP
                have hD : va_D A (wX4 cI a0 a1 a2 M SV MX ML t86.1 MH) := hD
                refine lv_iload_n hx hb dX4_readsCommand_192 rfl (lv_at hl 6 rfl) ?_
                refine kif_eqb (tgt := 226) hx hb dX4_readsCommand_193 (by decide) (fun c67 => ?_) (fun c67 => ?_)
                · have hf := kIfF c67 hf
                  refine lv_iconst (v := (1 : Int32)) hx hb dX4_readsCommand_226 (by decide) ?_
                  have he := Option.some.inj hf
                  have he := hO1 _ he.symm
                  subst he
                  exact kretz hx hb hr hlk hP hD hS dX4_readsCommand_227
                · have hf := kIfT c67 hf
                  refine lv_aload_n hx hb dX4_readsCommand_196 rfl (lv_at hl 5 rfl) ?_
                  refine lv_iload_n hx hb dX4_readsCommand_197 rfl (lv_at hl 4 rfl) ?_
                  refine lv_iload hx hb dX4_readsCommand_198 (lv_at hl 0 rfl) ?_
                  refine lv_iload_n hx hb dX4_readsCommand_200 rfl (lv_at hl 3 rfl) ?_
                  refine lv_bipush (v := (62 : Int32)) hx hb dX4_readsCommand_201 (by decide) ?_
                  refine lv_icmp_ne (tgt := 210) hx hb dX4_readsCommand_203 (by decide) (fun c68 => ?_) (fun c68 => ?_)
                  · have hf := kIfF c68 hf
                    refine lv_iload_n hx hb dX4_readsCommand_210 rfl (lv_at hl 3 rfl) ?_
                    refine lv_bipush (v := (60 : Int32)) hx hb dX4_readsCommand_211 (by decide) ?_
                    refine lv_icmp_ne (tgt := 220) hx hb dX4_readsCommand_213 (by decide) (fun c69 => ?_) (fun c69 => ?_)
                    · have hf := kIfF c69 hf
                      refine lv_iconst (v := (0 : Int32)) hx hb dX4_readsCommand_220 (by decide) ?_
                      obtain ⟨v70, h71, hf⟩ := kBind hf
                      refine kgoA (krunV (wc := (wX4 cI a0 a1 a2 M SV MX ML t86.1 MH)) (As := [.int (v1.1 - (48 : Int32)), .int t86.2, .int (0 : Int32)]) (rest := []) (ci := 4) hx hb hml hown hts hK (kX4_aims l D cI a0 a1 a2 M SV MX ML t86.1 MH (v1.1 - (48 : Int32)) t86.2 (0 : Int32) v70 h71) gX4_readsCommand_X4_aims rfl rfl rfl hdX4_aims ⟨Nat.le_of_ble_eq_true rfl, Nat.le_of_ble_eq_true rfl⟩ hP hD rfl rfl rfl rfl hl.1 rfl (Nat.le_of_ble_eq_true rfl) dX4_readsCommand_221 ⟨Nat.zero_le _, Nat.zero_le _⟩) hD hS hA (fun H locs hP hD hS => ?_)
                      refine lv_istore (lv' := [(7, .int v70.1), (6, .int t86.2), (5, .int t86.1), (4, .int v12.1), (3, .int v9.1), (2, .int (v1.1 - (48 : Int32))), (0, .ref a0), (1, .int (bI x1))]) hx hb dX4_readsCommand_224 hl (by decide) rfl (fun ls hl => ?_)
                      refine lv_iconst (v := (1 : Int32)) hx hb dX4_readsCommand_226 (by decide) ?_
                      have he := Option.some.inj hf
                      have he := hO1 _ he.symm
                      subst he
                      exact kretz hx hb hr hlk hP hD hS dX4_readsCommand_227
                    · have hf := kIfT c69 hf
                      refine lv_iconst (v := (-1 : Int32)) hx hb dX4_readsCommand_216 (by decide) ?_
                      refine lv_goto (tgt := 221) hx hb dX4_readsCommand_217 (by decide) ?_
                      obtain ⟨v72, h73, hf⟩ := kBind hf
                      refine kgoA (krunV (wc := (wX4 cI a0 a1 a2 M SV MX ML t86.1 MH)) (As := [.int (v1.1 - (48 : Int32)), .int t86.2, .int (-1 : Int32)]) (rest := []) (ci := 4) hx hb hml hown hts hK (kX4_aims l D cI a0 a1 a2 M SV MX ML t86.1 MH (v1.1 - (48 : Int32)) t86.2 (-1 : Int32) v72 h73) gX4_readsCommand_X4_aims rfl rfl rfl hdX4_aims ⟨Nat.le_of_ble_eq_true rfl, Nat.le_of_ble_eq_true rfl⟩ hP hD rfl rfl rfl rfl hl.1 rfl (Nat.le_of_ble_eq_true rfl) dX4_readsCommand_221 ⟨Nat.zero_le _, Nat.zero_le _⟩) hD hS hA (fun H locs hP hD hS => ?_)
                      refine lv_istore (lv' := [(7, .int v72.1), (6, .int t86.2), (5, .int t86.1), (4, .int v12.1), (3, .int v9.1), (2, .int (v1.1 - (48 : Int32))), (0, .ref a0), (1, .int (bI x1))]) hx hb dX4_readsCommand_224 hl (by decide) rfl (fun ls hl => ?_)
                      refine lv_iconst (v := (1 : Int32)) hx hb dX4_readsCommand_226 (by decide) ?_
                      have he := Option.some.inj hf
                      have he := hO1 _ he.symm
                      subst he
                      exact kretz hx hb hr hlk hP hD hS dX4_readsCommand_227
                  · have hf := kIfT c68 hf
                    refine lv_iconst (v := (1 : Int32)) hx hb dX4_readsCommand_206 (by decide) ?_
                    refine lv_goto (tgt := 221) hx hb dX4_readsCommand_207 (by decide) ?_
                    obtain ⟨v74, h75, hf⟩ := kBind hf
                    refine kgoA (krunV (wc := (wX4 cI a0 a1 a2 M SV MX ML t86.1 MH)) (As := [.int (v1.1 - (48 : Int32)), .int t86.2, .int (1 : Int32)]) (rest := []) (ci := 4) hx hb hml hown hts hK (kX4_aims l D cI a0 a1 a2 M SV MX ML t86.1 MH (v1.1 - (48 : Int32)) t86.2 (1 : Int32) v74 h75) gX4_readsCommand_X4_aims rfl rfl rfl hdX4_aims ⟨Nat.le_of_ble_eq_true rfl, Nat.le_of_ble_eq_true rfl⟩ hP hD rfl rfl rfl rfl hl.1 rfl (Nat.le_of_ble_eq_true rfl) dX4_readsCommand_221 ⟨Nat.zero_le _, Nat.zero_le _⟩) hD hS hA (fun H locs hP hD hS => ?_)
                    refine lv_istore (lv' := [(7, .int v74.1), (6, .int t86.2), (5, .int t86.1), (4, .int v12.1), (3, .int v9.1), (2, .int (v1.1 - (48 : Int32))), (0, .ref a0), (1, .int (bI x1))]) hx hb dX4_readsCommand_224 hl (by decide) rfl (fun ls hl => ?_)
                    refine lv_iconst (v := (1 : Int32)) hx hb dX4_readsCommand_226 (by decide) ?_
                    have he := Option.some.inj hf
                    have he := hO1 _ he.symm
                    subst he
                    exact kretz hx hb hr hlk hP hD hS dX4_readsCommand_227
              · have hf := kIfF c66 hf
                refine lv_iconst (v := (0 : Int32)) hx hb dX4_readsCommand_184 (by decide) ?_
                have he := Option.some.inj hf
                have he := hO1 _ he.symm
                subst he
                exact kretz hx hb hr hlk hP hD hS dX4_readsCommand_185
        · have hf := kIfF c63 hf
          refine lv_iload hx hb dX4_readsCommand_91 (lv_at hl 1 rfl) ?_
          refine lv_aload_n hx hb dX4_readsCommand_93 rfl (lv_at hl 5 rfl) ?_
          refine va_get (D := D) (ci := 4) (v := .int ML) (C := RX4) (T := TX4) (N := 6) hx hb hts hinX4 hown hK.1 hP 0 rfl rfl 3 (by decide) hfl121 (fun _ h9 => h9) rfl dX4_readsCommand_94 ?_
          refine lv_icmp_ge (tgt := 157) hx hb dX4_readsCommand_97 (by decide) (fun c76 => ?_) (fun c76 => ?_)
          · have hf := kIfT c76 hf
            refine lv_iload hx hb dX4_readsCommand_157 (lv_at hl 1 rfl) ?_
            refine lv_aload_n hx hb dX4_readsCommand_159 rfl (lv_at hl 5 rfl) ?_
            refine va_get (D := D) (ci := 4) (v := .int v12.2) (C := RX4) (T := TX4) (N := 6) hx hb hts hinX4 hown hK.1 hP 0 rfl rfl 4 (by decide) hfl124 (fun _ h9 => h9) rfl dX4_readsCommand_160 ?_
            refine lv_icmp_eq (tgt := 184) hx hb dX4_readsCommand_163 (by decide) (fun c77 => ?_) (fun c77 => ?_)
            · have hf := kIfT c77 hf
              refine lv_iconst (v := (0 : Int32)) hx hb dX4_readsCommand_184 (by decide) ?_
              have he := Option.some.inj hf
              have he := hO1 _ he.symm
              subst he
              exact kretz hx hb hr hlk hP hD hS dX4_readsCommand_185
            · have hf := kIfF c77 hf
              refine lv_iload hx hb dX4_readsCommand_166 (lv_at hl 1 rfl) ?_
              refine lv_aload_n hx hb dX4_readsCommand_168 rfl (lv_at hl 5 rfl) ?_
              refine va_get (D := D) (ci := 4) (v := .int v12.2) (C := RX4) (T := TX4) (N := 6) hx hb hts hinX4 hown hK.1 hP 0 rfl rfl 4 (by decide) hfl124 (fun _ h9 => h9) rfl dX4_readsCommand_169 ?_
              refine lv_isub hx hb dX4_readsCommand_172 ?_
              refine lv_iconst (v := (2 : Int32)) hx hb dX4_readsCommand_173 (by decide) ?_
              refine lv_icmp_gt (tgt := 184) hx hb dX4_readsCommand_174 (by decide) (fun c78 => ?_) (fun c78 => ?_)
              · have hf := kIfT c78 hf
                refine lv_iconst (v := (0 : Int32)) hx hb dX4_readsCommand_184 (by decide) ?_
                have he := Option.some.inj hf
                have he := hO1 _ he.symm
                subst he
                exact kretz hx hb hr hlk hP hD hS dX4_readsCommand_185
              · have hf := kIfF c78 hf
                refine lv_iload hx hb dX4_readsCommand_177 (lv_at hl 0 rfl) ?_
                refine lv_bipush (v := (35 : Int32)) hx hb dX4_readsCommand_179 (by decide) ?_
                refine lv_icmp_le (tgt := 186) hx hb dX4_readsCommand_181 (by decide) (fun c79 => ?_) (fun c79 => ?_)
                · have hf := kIfT c79 hf
                  refine lv_aload_n hx hb dX4_readsCommand_186 rfl (lv_at hl 5 rfl) ?_
                  refine lv_iload hx hb dX4_readsCommand_187 (lv_at hl 1 rfl) ?_
                  refine va_put (D := D) (ci := 4) (v := .int t86.1) (ty := .int) (C := RX4) (T := TX4) (N := 6) hx hb hts hinX4 tyX4 tyX4_ok nmX4 hown hK.1 hP hD hS 0 rfl rfl 4 (by decide) hfl124 (fun _ h9 => h9) rfl (by decide +kernel) rfl rfl (Nat.le_of_ble_eq_true rfl) dX4_readsCommand_189 (fun H locs hP hD hS => ?_)
                  have hP : va_P D vwCl (wX4 cI a0 a1 a2 M SV MX ML t86.1 MH) H := hP
                  have hD : va_D A (wX4 cI a0 a1 a2 M SV MX ML t86.1 MH) := hD
                  refine lv_iload_n hx hb dX4_readsCommand_192 rfl (lv_at hl 6 rfl) ?_
                  refine kif_eqb (tgt := 226) hx hb dX4_readsCommand_193 (by decide) (fun c80 => ?_) (fun c80 => ?_)
                  · have hf := kIfF c80 hf
                    refine lv_iconst (v := (1 : Int32)) hx hb dX4_readsCommand_226 (by decide) ?_
                    have he := Option.some.inj hf
                    have he := hO1 _ he.symm
                    subst he
                    exact kretz hx hb hr hlk hP hD hS dX4_readsCommand_227
                  · have hf := kIfT c80 hf
                    refine lv_aload_n hx hb dX4_readsCommand_196 rfl (lv_at hl 5 rfl) ?_
                    refine lv_iload_n hx hb dX4_readsCommand_197 rfl (lv_at hl 4 rfl) ?_
                    refine lv_iload hx hb dX4_readsCommand_198 (lv_at hl 0 rfl) ?_
                    refine lv_iload_n hx hb dX4_readsCommand_200 rfl (lv_at hl 3 rfl) ?_
                    refine lv_bipush (v := (62 : Int32)) hx hb dX4_readsCommand_201 (by decide) ?_
                    refine lv_icmp_ne (tgt := 210) hx hb dX4_readsCommand_203 (by decide) (fun c81 => ?_) (fun c81 => ?_)
                    · have hf := kIfF c81 hf
                      refine lv_iload_n hx hb dX4_readsCommand_210 rfl (lv_at hl 3 rfl) ?_
                      refine lv_bipush (v := (60 : Int32)) hx hb dX4_readsCommand_211 (by decide) ?_
                      refine lv_icmp_ne (tgt := 220) hx hb dX4_readsCommand_213 (by decide) (fun c82 => ?_) (fun c82 => ?_)
                      · have hf := kIfF c82 hf
                        refine lv_iconst (v := (0 : Int32)) hx hb dX4_readsCommand_220 (by decide) ?_
                        obtain ⟨v83, h84, hf⟩ := kBind hf
                        refine kgoA (krunV (wc := (wX4 cI a0 a1 a2 M SV MX ML t86.1 MH)) (As := [.int (v1.1 - (48 : Int32)), .int t86.2, .int (0 : Int32)]) (rest := []) (ci := 4) hx hb hml hown hts hK (kX4_aims l D cI a0 a1 a2 M SV MX ML t86.1 MH (v1.1 - (48 : Int32)) t86.2 (0 : Int32) v83 h84) gX4_readsCommand_X4_aims rfl rfl rfl hdX4_aims ⟨Nat.le_of_ble_eq_true rfl, Nat.le_of_ble_eq_true rfl⟩ hP hD rfl rfl rfl rfl hl.1 rfl (Nat.le_of_ble_eq_true rfl) dX4_readsCommand_221 ⟨Nat.zero_le _, Nat.zero_le _⟩) hD hS hA (fun H locs hP hD hS => ?_)
                        refine lv_istore (lv' := [(7, .int v83.1), (6, .int t86.2), (5, .int t86.1), (4, .int v12.1), (3, .int v9.1), (2, .int (v1.1 - (48 : Int32))), (0, .ref a0), (1, .int (bI x1))]) hx hb dX4_readsCommand_224 hl (by decide) rfl (fun ls hl => ?_)
                        refine lv_iconst (v := (1 : Int32)) hx hb dX4_readsCommand_226 (by decide) ?_
                        have he := Option.some.inj hf
                        have he := hO1 _ he.symm
                        subst he
                        exact kretz hx hb hr hlk hP hD hS dX4_readsCommand_227
                      · have hf := kIfT c82 hf
                        refine lv_iconst (v := (-1 : Int32)) hx hb dX4_readsCommand_216 (by decide) ?_
                        refine lv_goto (tgt := 221) hx hb dX4_readsCommand_217 (by decide) ?_
                        obtain ⟨v85, h86, hf⟩ := kBind hf
                        refine kgoA (krunV (wc := (wX4 cI a0 a1 a2 M SV MX ML t86.1 MH)) (As := [.int (v1.1 - (48 : Int32)), .int t86.2, .int (-1 : Int32)]) (rest := []) (ci := 4) hx hb hml hown hts hK (kX4_aims l D cI a0 a1 a2 M SV MX ML t86.1 MH (v1.1 - (48 : Int32)) t86.2 (-1 : Int32) v85 h86) gX4_readsCommand_X4_aims rfl rfl rfl hdX4_aims ⟨Nat.le_of_ble_eq_true rfl, Nat.le_of_ble_eq_true rfl⟩ hP hD rfl rfl rfl rfl hl.1 rfl (Nat.le_of_ble_eq_true rfl) dX4_readsCommand_221 ⟨Nat.zero_le _, Nat.zero_le _⟩) hD hS hA (fun H locs hP hD hS => ?_)
                        refine lv_istore (lv' := [(7, .int v85.1), (6, .int t86.2), (5, .int t86.1), (4, .int v12.1), (3, .int v9.1), (2, .int (v1.1 - (48 : Int32))), (0, .ref a0), (1, .int (bI x1))]) hx hb dX4_readsCommand_224 hl (by decide) rfl (fun ls hl => ?_)
                        refine lv_iconst (v := (1 : Int32)) hx hb dX4_readsCommand_226 (by decide) ?_
                        have he := Option.some.inj hf
                        have he := hO1 _ he.symm
                        subst he
                        exact kretz hx hb hr hlk hP hD hS dX4_readsCommand_227
                    · have hf := kIfT c81 hf
                      refine lv_iconst (v := (1 : Int32)) hx hb dX4_readsCommand_206 (by decide) ?_
                      refine lv_goto (tgt := 221) hx hb dX4_readsCommand_207 (by decide) ?_
                      obtain ⟨v87, h88, hf⟩ := kBind hf
                      refine kgoA (krunV (wc := (wX4 cI a0 a1 a2 M SV MX ML t86.1 MH)) (As := [.int (v1.1 - (48 : Int32)), .int t86.2, .int (1 : Int32)]) (rest := []) (ci := 4) hx hb hml hown hts hK (kX4_aims l D cI a0 a1 a2 M SV MX ML t86.1 MH (v1.1 - (48 : Int32)) t86.2 (1 : Int32) v87 h88) gX4_readsCommand_X4_aims rfl rfl rfl hdX4_aims ⟨Nat.le_of_ble_eq_true rfl, Nat.le_of_ble_eq_true rfl⟩ hP hD rfl rfl rfl rfl hl.1 rfl (Nat.le_of_ble_eq_true rfl) dX4_readsCommand_221 ⟨Nat.zero_le _, Nat.zero_le _⟩) hD hS hA (fun H locs hP hD hS => ?_)
                      refine lv_istore (lv' := [(7, .int v87.1), (6, .int t86.2), (5, .int t86.1), (4, .int v12.1), (3, .int v9.1), (2, .int (v1.1 - (48 : Int32))), (0, .ref a0), (1, .int (bI x1))]) hx hb dX4_readsCommand_224 hl (by decide) rfl (fun ls hl => ?_)
                      refine lv_iconst (v := (1 : Int32)) hx hb dX4_readsCommand_226 (by decide) ?_
                      have he := Option.some.inj hf
                      have he := hO1 _ he.symm
                      subst he
                      exact kretz hx hb hr hlk hP hD hS dX4_readsCommand_227
                · have hf := kIfF c79 hf
                  refine lv_iconst (v := (0 : Int32)) hx hb dX4_readsCommand_184 (by decide) ?_
                  have he := Option.some.inj hf
                  have he := hO1 _ he.symm
                  subst he
                  exact kretz hx hb hr hlk hP hD hS dX4_readsCommand_185
          · have hf := kIfF c76 hf
            refine lv_aload_n hx hb dX4_readsCommand_100 rfl (lv_at hl 5 rfl) ?_
            refine va_get (D := D) (ci := 4) (v := .ref a2) (C := RX4) (T := TX4) (N := 6) hx hb hts hinX4 hown hK.1 hP 0 rfl rfl 2 (by decide) hfl13 (fun _ h9 => h9) rfl dX4_readsCommand_101 ?_
            refine lv_iload hx hb dX4_readsCommand_104 (lv_at hl 1 rfl) ?_
            obtain ⟨v89, h90, hf⟩ := kBind hf
            refine krd hx hb hK hP 2 rfl h90 dX4_readsCommand_106 ?_
            refine lv_bipush (v := (48 : Int32)) hx hb dX4_readsCommand_107 (by decide) ?_
            refine lv_bipush (v := (57 : Int32)) hx hb dX4_readsCommand_109 (by decide) ?_
            obtain ⟨v91, h92, hf⟩ := kBind hf
            refine kgoR (krunS (wc := ([] : va_W)) (As := [.int v89, .int (48 : Int32), .int (57 : Int32)]) (rest := []) hx hb hml hown hts hK (kX4_in l D cI v89 (48 : Int32) (57 : Int32) v91 h92) gX4_readsCommand_X4_in rfl rfl rfl hdX4_in ⟨Nat.le_of_ble_eq_true rfl, Nat.le_of_ble_eq_true rfl⟩ k_P0 (k_D0 A) rfl hl.1 rfl (Nat.le_of_ble_eq_true rfl) dX4_readsCommand_111 ⟨Nat.zero_le _, Nat.zero_le _⟩) hP hD hS hA [] rfl (fun H locs hP hS => ?_)
            refine kif_eqb (tgt := 157) hx hb dX4_readsCommand_114 (by decide) (fun c93 => ?_) (fun c93 => ?_)
            · have hf := kIfF c93 hf
              refine lv_iload hx hb dX4_readsCommand_157 (lv_at hl 1 rfl) ?_
              refine lv_aload_n hx hb dX4_readsCommand_159 rfl (lv_at hl 5 rfl) ?_
              refine va_get (D := D) (ci := 4) (v := .int v12.2) (C := RX4) (T := TX4) (N := 6) hx hb hts hinX4 hown hK.1 hP 0 rfl rfl 4 (by decide) hfl124 (fun _ h9 => h9) rfl dX4_readsCommand_160 ?_
              refine lv_icmp_eq (tgt := 184) hx hb dX4_readsCommand_163 (by decide) (fun c94 => ?_) (fun c94 => ?_)
              · have hf := kIfT c94 hf
                refine lv_iconst (v := (0 : Int32)) hx hb dX4_readsCommand_184 (by decide) ?_
                have he := Option.some.inj hf
                have he := hO1 _ he.symm
                subst he
                exact kretz hx hb hr hlk hP hD hS dX4_readsCommand_185
              · have hf := kIfF c94 hf
                refine lv_iload hx hb dX4_readsCommand_166 (lv_at hl 1 rfl) ?_
                refine lv_aload_n hx hb dX4_readsCommand_168 rfl (lv_at hl 5 rfl) ?_
                refine va_get (D := D) (ci := 4) (v := .int v12.2) (C := RX4) (T := TX4) (N := 6) hx hb hts hinX4 hown hK.1 hP 0 rfl rfl 4 (by decide) hfl124 (fun _ h9 => h9) rfl dX4_readsCommand_169 ?_
                refine lv_isub hx hb dX4_readsCommand_172 ?_
                refine lv_iconst (v := (2 : Int32)) hx hb dX4_readsCommand_173 (by decide) ?_
                refine lv_icmp_gt (tgt := 184) hx hb dX4_readsCommand_174 (by decide) (fun c95 => ?_) (fun c95 => ?_)
                · have hf := kIfT c95 hf
                  refine lv_iconst (v := (0 : Int32)) hx hb dX4_readsCommand_184 (by decide) ?_
                  have he := Option.some.inj hf
                  have he := hO1 _ he.symm
                  subst he
                  exact kretz hx hb hr hlk hP hD hS dX4_readsCommand_185
                · have hf := kIfF c95 hf
                  refine lv_iload hx hb dX4_readsCommand_177 (lv_at hl 0 rfl) ?_
                  refine lv_bipush (v := (35 : Int32)) hx hb dX4_readsCommand_179 (by decide) ?_
                  refine lv_icmp_le (tgt := 186) hx hb dX4_readsCommand_181 (by decide) (fun c96 => ?_) (fun c96 => ?_)
                  · have hf := kIfT c96 hf
                    refine lv_aload_n hx hb dX4_readsCommand_186 rfl (lv_at hl 5 rfl) ?_
                    refine lv_iload hx hb dX4_readsCommand_187 (lv_at hl 1 rfl) ?_
                    refine va_put (D := D) (ci := 4) (v := .int t86.1) (ty := .int) (C := RX4) (T := TX4) (N := 6) hx hb hts hinX4 tyX4 tyX4_ok nmX4 hown hK.1 hP hD hS 0 rfl rfl 4 (by decide) hfl124 (fun _ h9 => h9) rfl (by decide +kernel) rfl rfl (Nat.le_of_ble_eq_true rfl) dX4_readsCommand_189 (fun H locs hP hD hS => ?_)
                    have hP : va_P D vwCl (wX4 cI a0 a1 a2 M SV MX ML t86.1 MH) H := hP
                    have hD : va_D A (wX4 cI a0 a1 a2 M SV MX ML t86.1 MH) := hD
                    refine lv_iload_n hx hb dX4_readsCommand_192 rfl (lv_at hl 6 rfl) ?_
                    refine kif_eqb (tgt := 226) hx hb dX4_readsCommand_193 (by decide) (fun c97 => ?_) (fun c97 => ?_)
                    · have hf := kIfF c97 hf
                      refine lv_iconst (v := (1 : Int32)) hx hb dX4_readsCommand_226 (by decide) ?_
                      have he := Option.some.inj hf
                      have he := hO1 _ he.symm
                      subst he
                      exact kretz hx hb hr hlk hP hD hS dX4_readsCommand_227
                    · have hf := kIfT c97 hf
                      refine lv_aload_n hx hb dX4_readsCommand_196 rfl (lv_at hl 5 rfl) ?_
                      refine lv_iload_n hx hb dX4_readsCommand_197 rfl (lv_at hl 4 rfl) ?_
                      refine lv_iload hx hb dX4_readsCommand_198 (lv_at hl 0 rfl) ?_
                      refine lv_iload_n hx hb dX4_readsCommand_200 rfl (lv_at hl 3 rfl) ?_
                      refine lv_bipush (v := (62 : Int32)) hx hb dX4_readsCommand_201 (by decide) ?_
                      refine lv_icmp_ne (tgt := 210) hx hb dX4_readsCommand_203 (by decide) (fun c98 => ?_) (fun c98 => ?_)
                      · have hf := kIfF c98 hf
                        refine lv_iload_n hx hb dX4_readsCommand_210 rfl (lv_at hl 3 rfl) ?_
                        refine lv_bipush (v := (60 : Int32)) hx hb dX4_readsCommand_211 (by decide) ?_
                        refine lv_icmp_ne (tgt := 220) hx hb dX4_readsCommand_213 (by decide) (fun c99 => ?_) (fun c99 => ?_)
                        · have hf := kIfF c99 hf
                          refine lv_iconst (v := (0 : Int32)) hx hb dX4_readsCommand_220 (by decide) ?_
                          obtain ⟨v100, h101, hf⟩ := kBind hf
                          refine kgoA (krunV (wc := (wX4 cI a0 a1 a2 M SV MX ML t86.1 MH)) (As := [.int (v1.1 - (48 : Int32)), .int t86.2, .int (0 : Int32)]) (rest := []) (ci := 4) hx hb hml hown hts hK (kX4_aims l D cI a0 a1 a2 M SV MX ML t86.1 MH (v1.1 - (48 : Int32)) t86.2 (0 : Int32) v100 h101) gX4_readsCommand_X4_aims rfl rfl rfl hdX4_aims ⟨Nat.le_of_ble_eq_true rfl, Nat.le_of_ble_eq_true rfl⟩ hP hD rfl rfl rfl rfl hl.1 rfl (Nat.le_of_ble_eq_true rfl) dX4_readsCommand_221 ⟨Nat.zero_le _, Nat.zero_le _⟩) hD hS hA (fun H locs hP hD hS => ?_)
                          refine lv_istore (lv' := [(7, .int v100.1), (6, .int t86.2), (5, .int t86.1), (4, .int v12.1), (3, .int v9.1), (2, .int (v1.1 - (48 : Int32))), (0, .ref a0), (1, .int (bI x1))]) hx hb dX4_readsCommand_224 hl (by decide) rfl (fun ls hl => ?_)
                          refine lv_iconst (v := (1 : Int32)) hx hb dX4_readsCommand_226 (by decide) ?_
                          have he := Option.some.inj hf
                          have he := hO1 _ he.symm
                          subst he
                          exact kretz hx hb hr hlk hP hD hS dX4_readsCommand_227
                        · have hf := kIfT c99 hf
                          refine lv_iconst (v := (-1 : Int32)) hx hb dX4_readsCommand_216 (by decide) ?_
                          refine lv_goto (tgt := 221) hx hb dX4_readsCommand_217 (by decide) ?_
                          obtain ⟨v102, h103, hf⟩ := kBind hf
                          refine kgoA (krunV (wc := (wX4 cI a0 a1 a2 M SV MX ML t86.1 MH)) (As := [.int (v1.1 - (48 : Int32)), .int t86.2, .int (-1 : Int32)]) (rest := []) (ci := 4) hx hb hml hown hts hK (kX4_aims l D cI a0 a1 a2 M SV MX ML t86.1 MH (v1.1 - (48 : Int32)) t86.2 (-1 : Int32) v102 h103) gX4_readsCommand_X4_aims rfl rfl rfl hdX4_aims ⟨Nat.le_of_ble_eq_true rfl, Nat.le_of_ble_eq_true rfl⟩ hP hD rfl rfl rfl rfl hl.1 rfl (Nat.le_of_ble_eq_true rfl) dX4_readsCommand_221 ⟨Nat.zero_le _, Nat.zero_le _⟩) hD hS hA (fun H locs hP hD hS => ?_)
                          refine lv_istore (lv' := [(7, .int v102.1), (6, .int t86.2), (5, .int t86.1), (4, .int v12.1), (3, .int v9.1), (2, .int (v1.1 - (48 : Int32))), (0, .ref a0), (1, .int (bI x1))]) hx hb dX4_readsCommand_224 hl (by decide) rfl (fun ls hl => ?_)
                          refine lv_iconst (v := (1 : Int32)) hx hb dX4_readsCommand_226 (by decide) ?_
                          have he := Option.some.inj hf
                          have he := hO1 _ he.symm
                          subst he
                          exact kretz hx hb hr hlk hP hD hS dX4_readsCommand_227
                      · have hf := kIfT c98 hf
                        refine lv_iconst (v := (1 : Int32)) hx hb dX4_readsCommand_206 (by decide) ?_
                        refine lv_goto (tgt := 221) hx hb dX4_readsCommand_207 (by decide) ?_
                        obtain ⟨v104, h105, hf⟩ := kBind hf
                        refine kgoA (krunV (wc := (wX4 cI a0 a1 a2 M SV MX ML t86.1 MH)) (As := [.int (v1.1 - (48 : Int32)), .int t86.2, .int (1 : Int32)]) (rest := []) (ci := 4) hx hb hml hown hts hK (kX4_aims l D cI a0 a1 a2 M SV MX ML t86.1 MH (v1.1 - (48 : Int32)) t86.2 (1 : Int32) v104 h105) gX4_readsCommand_X4_aims rfl rfl rfl hdX4_aims ⟨Nat.le_of_ble_eq_true rfl, Nat.le_of_ble_eq_true rfl⟩ hP hD rfl rfl rfl rfl hl.1 rfl (Nat.le_of_ble_eq_true rfl) dX4_readsCommand_221 ⟨Nat.zero_le _, Nat.zero_le _⟩) hD hS hA (fun H locs hP hD hS => ?_)
                        refine lv_istore (lv' := [(7, .int v104.1), (6, .int t86.2), (5, .int t86.1), (4, .int v12.1), (3, .int v9.1), (2, .int (v1.1 - (48 : Int32))), (0, .ref a0), (1, .int (bI x1))]) hx hb dX4_readsCommand_224 hl (by decide) rfl (fun ls hl => ?_)
                        refine lv_iconst (v := (1 : Int32)) hx hb dX4_readsCommand_226 (by decide) ?_
                        have he := Option.some.inj hf
                        have he := hO1 _ he.symm
                        subst he
                        exact kretz hx hb hr hlk hP hD hS dX4_readsCommand_227
                  · have hf := kIfF c96 hf
                    refine lv_iconst (v := (0 : Int32)) hx hb dX4_readsCommand_184 (by decide) ?_
                    have he := Option.some.inj hf
                    have he := hO1 _ he.symm
                    subst he
                    exact kretz hx hb hr hlk hP hD hS dX4_readsCommand_185
            · have hf := kIfT c93 hf
              refine lv_iload hx hb dX4_readsCommand_117 (lv_at hl 1 rfl) ?_
              refine lv_aload_n hx hb dX4_readsCommand_119 rfl (lv_at hl 5 rfl) ?_
              refine va_get (D := D) (ci := 4) (v := .int v12.2) (C := RX4) (T := TX4) (N := 6) hx hb hts hinX4 hown hK.1 hP 0 rfl rfl 4 (by decide) hfl124 (fun _ h9 => h9) rfl dX4_readsCommand_120 ?_
              refine lv_isub hx hb dX4_readsCommand_123 ?_
              refine lv_iconst (v := (3 : Int32)) hx hb dX4_readsCommand_124 (by decide) ?_
              refine lv_icmp_ge (tgt := 147) hx hb dX4_readsCommand_125 (by decide) (fun c106 => ?_) (fun c106 => ?_)
              · have hf := kIfT c106 hf
                refine lv_iload hx hb dX4_readsCommand_147 (lv_at hl 0 rfl) ?_
                refine lv_istore (lv' := [(6, .int t86.2), (5, .int t86.1), (4, .int v12.1), (3, .int v9.1), (2, .int (v1.1 - (48 : Int32))), (0, .ref a0), (1, .int (bI x1))]) hx hb dX4_readsCommand_149 hl (by decide) rfl (fun ls hl => ?_)
                refine lv_iinc (v := t86.1 + (1 : Int32)) (lv' := [(5, .int (t86.1 + (1 : Int32))), (6, .int t86.2), (4, .int v12.1), (3, .int v9.1), (2, .int (v1.1 - (48 : Int32))), (0, .ref a0), (1, .int (bI x1))]) hx hb dX4_readsCommand_151 hl (k := 1) rfl rfl (by decide) rfl (fun ls hl => ?_)
                refine lv_goto (tgt := 86) hx hb dX4_readsCommand_154 (by decide) ?_
                obtain ⟨z107, hz107⟩ : ∃ z : Int32, z = t86.1 + (1 : Int32) := ⟨_, rfl⟩
                rw [← hz107] at hf
                have he := (Option.some.inj hf).symm
                have hl : lv_has ls 8 [(6, .int t86.2), (5, .int z107), (4, .int v12.1), (3, .int v9.1), (2, .int (v1.1 - (48 : Int32))), (0, .ref a0), (1, .int (bI x1))] := by rw [hz107]; exact lv_sub hl [1, 0, 2, 3, 4, 5, 6] rfl
                exact hI1 _ he H locs ls hP hD hS hl
              · have hf := kIfF c106 hf
                refine lv_bipush (v := (10 : Int32)) hx hb dX4_readsCommand_128 (by decide) ?_
                refine lv_iload hx hb dX4_readsCommand_130 (lv_at hl 0 rfl) ?_
                refine lv_imul hx hb dX4_readsCommand_132 ?_
                refine lv_aload_n hx hb dX4_readsCommand_133 rfl (lv_at hl 5 rfl) ?_
                refine va_get (D := D) (ci := 4) (v := .ref a2) (C := RX4) (T := TX4) (N := 6) hx hb hts hinX4 hown hK.1 hP 0 rfl rfl 2 (by decide) hfl13 (fun _ h9 => h9) rfl dX4_readsCommand_134 ?_
                refine lv_iload hx hb dX4_readsCommand_137 (lv_at hl 1 rfl) ?_
                obtain ⟨v108, h109, hf⟩ := kBind hf
                refine krd hx hb hK hP 2 rfl h109 dX4_readsCommand_139 ?_
                refine lv_iadd hx hb dX4_readsCommand_140 ?_
                refine lv_bipush (v := (48 : Int32)) hx hb dX4_readsCommand_141 (by decide) ?_
                refine lv_isub hx hb dX4_readsCommand_143 ?_
                refine lv_goto (tgt := 149) hx hb dX4_readsCommand_144 (by decide) ?_
                refine lv_istore (lv' := [(6, .int ((((10 : Int32) * t86.2) + v108) - (48 : Int32))), (5, .int t86.1), (4, .int v12.1), (3, .int v9.1), (2, .int (v1.1 - (48 : Int32))), (0, .ref a0), (1, .int (bI x1))]) hx hb dX4_readsCommand_149 hl (by decide) rfl (fun ls hl => ?_)
                refine lv_iinc (v := t86.1 + (1 : Int32)) (lv' := [(5, .int (t86.1 + (1 : Int32))), (6, .int ((((10 : Int32) * t86.2) + v108) - (48 : Int32))), (4, .int v12.1), (3, .int v9.1), (2, .int (v1.1 - (48 : Int32))), (0, .ref a0), (1, .int (bI x1))]) hx hb dX4_readsCommand_151 hl (k := 1) rfl rfl (by decide) rfl (fun ls hl => ?_)
                refine lv_goto (tgt := 86) hx hb dX4_readsCommand_154 (by decide) ?_
                obtain ⟨z110, hz110⟩ : ∃ z : Int32, z = (((10 : Int32) * t86.2) + v108) - (48 : Int32) := ⟨_, rfl⟩
                rw [← hz110] at hf
                obtain ⟨z111, hz111⟩ : ∃ z : Int32, z = t86.1 + (1 : Int32) := ⟨_, rfl⟩
                rw [← hz111] at hf
                have he := (Option.some.inj hf).symm
                have hl : lv_has ls 8 [(6, .int z110), (5, .int z111), (4, .int v12.1), (3, .int v9.1), (2, .int (v1.1 - (48 : Int32))), (0, .ref a0), (1, .int (bI x1))] := by rw [hz110, hz111]; exact lv_sub hl [1, 0, 2, 3, 4, 5, 6] rfl
                exact hI1 _ he H locs ls hP hD hS hl
      · have hf := kIfF c11 hf
        refine lv_iload_n hx hb dX4_readsCommand_47 rfl (lv_at hl 0 rfl) ?_
        refine lv_bipush (v := (60 : Int32)) hx hb dX4_readsCommand_48 (by decide) ?_
        refine lv_icmp_eq (tgt := 61) hx hb dX4_readsCommand_50 (by decide) (fun c112 => ?_) (fun c112 => ?_)
        · have hf := kIfT c112 hf
          refine lv_aload_n hx hb dX4_readsCommand_61 rfl (lv_at hl 2 rfl) ?_
          refine lv_dup hx hb dX4_readsCommand_62 rfl ?_
          refine va_get (D := D) (ci := 4) (v := .int v9.2) (C := RX4) (T := TX4) (N := 6) hx hb hts hinX4 hown hK.1 hP 0 rfl rfl 4 (by decide) hfl124 (fun _ h9 => h9) rfl dX4_readsCommand_63 ?_
          refine lv_iconst (v := (1 : Int32)) hx hb dX4_readsCommand_66 (by decide) ?_
          refine lv_iadd hx hb dX4_readsCommand_67 ?_
          refine va_put (D := D) (ci := 4) (v := .int (v9.2 + (1 : Int32))) (ty := .int) (C := RX4) (T := TX4) (N := 6) hx hb hts hinX4 tyX4 tyX4_ok nmX4 hown hK.1 hP hD hS 0 rfl rfl 4 (by decide) hfl124 (fun _ h9 => h9) rfl (by decide +kernel) rfl rfl (Nat.le_of_ble_eq_true rfl) dX4_readsCommand_68 (fun H locs hP hD hS => ?_)
          have hP : va_P D vwCl (wX4 cI a0 a1 a2 M SV MX ML (v9.2 + (1 : Int32)) MH) H := hP
          have hD : va_D A (wX4 cI a0 a1 a2 M SV MX ML (v9.2 + (1 : Int32)) MH) := hD
          refine lv_aload_n hx hb dX4_readsCommand_71 rfl (lv_at hl 2 rfl) ?_
          obtain ⟨v113, h114, hf⟩ := kBind hf
          refine kgoA (krunV (wc := (wX4 cI a0 a1 a2 M SV MX ML (v9.2 + (1 : Int32)) MH)) (As := []) (rest := []) (ci := 4) hx hb hml hown hts hK (kX4_here l D cI fu a0 a1 a2 M SV MX ML (v9.2 + (1 : Int32)) MH v113 h114) gX4_readsCommand_X4_here rfl rfl rfl hdX4_here ⟨Nat.le_of_ble_eq_true rfl, Nat.le_of_ble_eq_true rfl⟩ hP hD rfl rfl rfl rfl hl.1 rfl (Nat.le_of_ble_eq_true rfl) dX4_readsCommand_72 ⟨Nat.zero_le _, Nat.zero_le _⟩) hD hS hA (fun H locs hP hD hS => ?_)
          refine lv_istore (lv' := [(4, .int v113.1), (3, .int v9.1), (2, .int (v1.1 - (48 : Int32))), (0, .ref a0), (1, .int (bI x1))]) hx hb dX4_readsCommand_75 hl (by decide) rfl (fun ls hl => ?_)
          refine lv_aload_n hx hb dX4_readsCommand_77 rfl (lv_at hl 3 rfl) ?_
          refine va_get (D := D) (ci := 4) (v := .int v113.2) (C := RX4) (T := TX4) (N := 6) hx hb hts hinX4 hown hK.1 hP 0 rfl rfl 4 (by decide) hfl124 (fun _ h9 => h9) rfl dX4_readsCommand_78 ?_
          refine lv_istore (lv' := [(5, .int v113.2), (4, .int v113.1), (3, .int v9.1), (2, .int (v1.1 - (48 : Int32))), (0, .ref a0), (1, .int (bI x1))]) hx hb dX4_readsCommand_81 hl (by decide) rfl (fun ls hl => ?_)
          refine lv_iconst (v := (0 : Int32)) hx hb dX4_readsCommand_83 (by decide) ?_
          refine lv_istore (lv' := [(6, .int (0 : Int32)), (5, .int v113.2), (4, .int v113.1), (3, .int v9.1), (2, .int (v1.1 - (48 : Int32))), (0, .ref a0), (1, .int (bI x1))]) hx hb dX4_readsCommand_84 hl (by decide) rfl (fun ls hl => ?_)
          have hl : lv_has ls 8 [(6, .int (0 : Int32)), (5, .int v113.2), (4, .int v113.1), (3, .int v9.1), (2, .int (v1.1 - (48 : Int32))), (0, .ref a0), (1, .int (bI x1))] := hl
          refine klp hf (fun t86 : Int32 × Int32 => (wX4 cI a0 a1 a2 M SV MX ML v113.2 MH)) 8 (fun t86 : Int32 × Int32 => [(6, .int t86.2), (5, .int t86.1), (4, .int v113.1), (3, .int v9.1), (2, .int (v1.1 - (48 : Int32))), (0, .ref a0), (1, .int (bI x1))]) ?_ hP hD hS hl
          intro t86 x86_ hf hI1 hO1 H locs ls hP hD hS hl
          unfold fX4_readsCommand_L86 at hf
          have hP : va_P D vwCl (wX4 cI a0 a1 a2 M SV MX ML v113.2 MH) H := hP
          have hD : va_D A (wX4 cI a0 a1 a2 M SV MX ML v113.2 MH) := hD
          have hl : lv_has ls 8 [(6, .int t86.2), (5, .int t86.1), (4, .int v113.1), (3, .int v9.1), (2, .int (v1.1 - (48 : Int32))), (0, .ref a0), (1, .int (bI x1))] := hl
          refine lv_iload hx hb dX4_readsCommand_86 (lv_at hl 2 rfl) ?_
          refine lv_if_lt (tgt := 157) hx hb dX4_readsCommand_88 (by decide) (fun c115 => ?_) (fun c115 => ?_)
          · have hf := kIfT c115 hf
            refine lv_iload hx hb dX4_readsCommand_157 (lv_at hl 1 rfl) ?_
            refine lv_aload_n hx hb dX4_readsCommand_159 rfl (lv_at hl 5 rfl) ?_
            refine va_get (D := D) (ci := 4) (v := .int v113.2) (C := RX4) (T := TX4) (N := 6) hx hb hts hinX4 hown hK.1 hP 0 rfl rfl 4 (by decide) hfl124 (fun _ h9 => h9) rfl dX4_readsCommand_160 ?_
            refine lv_icmp_eq (tgt := 184) hx hb dX4_readsCommand_163 (by decide) (fun c116 => ?_) (fun c116 => ?_)
            · have hf := kIfT c116 hf
              refine lv_iconst (v := (0 : Int32)) hx hb dX4_readsCommand_184 (by decide) ?_
              have he := Option.some.inj hf
              have he := hO1 _ he.symm
              subst he
              exact kretz hx hb hr hlk hP hD hS dX4_readsCommand_185
            · have hf := kIfF c116 hf
              refine lv_iload hx hb dX4_readsCommand_166 (lv_at hl 1 rfl) ?_
              refine lv_aload_n hx hb dX4_readsCommand_168 rfl (lv_at hl 5 rfl) ?_
              refine va_get (D := D) (ci := 4) (v := .int v113.2) (C := RX4) (T := TX4) (N := 6) hx hb hts hinX4 hown hK.1 hP 0 rfl rfl 4 (by decide) hfl124 (fun _ h9 => h9) rfl dX4_readsCommand_169 ?_
              refine lv_isub hx hb dX4_readsCommand_172 ?_
              refine lv_iconst (v := (2 : Int32)) hx hb dX4_readsCommand_173 (by decide) ?_
              refine lv_icmp_gt (tgt := 184) hx hb dX4_readsCommand_174 (by decide) (fun c117 => ?_) (fun c117 => ?_)
              · have hf := kIfT c117 hf
                refine lv_iconst (v := (0 : Int32)) hx hb dX4_readsCommand_184 (by decide) ?_
                have he := Option.some.inj hf
                have he := hO1 _ he.symm
                subst he
                exact kretz hx hb hr hlk hP hD hS dX4_readsCommand_185
              · have hf := kIfF c117 hf
                refine lv_iload hx hb dX4_readsCommand_177 (lv_at hl 0 rfl) ?_
                refine lv_bipush (v := (35 : Int32)) hx hb dX4_readsCommand_179 (by decide) ?_
                refine lv_icmp_le (tgt := 186) hx hb dX4_readsCommand_181 (by decide) (fun c118 => ?_) (fun c118 => ?_)
                · have hf := kIfT c118 hf
                  refine lv_aload_n hx hb dX4_readsCommand_186 rfl (lv_at hl 5 rfl) ?_
                  refine lv_iload hx hb dX4_readsCommand_187 (lv_at hl 1 rfl) ?_
                  refine va_put (D := D) (ci := 4) (v := .int t86.1) (ty := .int) (C := RX4) (T := TX4) (N := 6) hx hb hts hinX4 tyX4 tyX4_ok nmX4 hown hK.1 hP hD hS 0 rfl rfl 4 (by decide) hfl124 (fun _ h9 => h9) rfl (by decide +kernel) rfl rfl (Nat.le_of_ble_eq_true rfl) dX4_readsCommand_189 (fun H locs hP hD hS => ?_)
                  have hP : va_P D vwCl (wX4 cI a0 a1 a2 M SV MX ML t86.1 MH) H := hP
                  have hD : va_D A (wX4 cI a0 a1 a2 M SV MX ML t86.1 MH) := hD
                  refine lv_iload_n hx hb dX4_readsCommand_192 rfl (lv_at hl 6 rfl) ?_
                  refine kif_eqb (tgt := 226) hx hb dX4_readsCommand_193 (by decide) (fun c119 => ?_) (fun c119 => ?_)
                  · have hf := kIfF c119 hf
                    refine lv_iconst (v := (1 : Int32)) hx hb dX4_readsCommand_226 (by decide) ?_
                    have he := Option.some.inj hf
                    have he := hO1 _ he.symm
                    subst he
                    exact kretz hx hb hr hlk hP hD hS dX4_readsCommand_227
                  · have hf := kIfT c119 hf
                    refine lv_aload_n hx hb dX4_readsCommand_196 rfl (lv_at hl 5 rfl) ?_
                    refine lv_iload_n hx hb dX4_readsCommand_197 rfl (lv_at hl 4 rfl) ?_
                    refine lv_iload hx hb dX4_readsCommand_198 (lv_at hl 0 rfl) ?_
                    refine lv_iload_n hx hb dX4_readsCommand_200 rfl (lv_at hl 3 rfl) ?_
                    refine lv_bipush (v := (62 : Int32)) hx hb dX4_readsCommand_201 (by decide) ?_
                    refine lv_icmp_ne (tgt := 210) hx hb dX4_readsCommand_203 (by decide) (fun c120 => ?_) (fun c120 => ?_)
                    · have hf := kIfF c120 hf
                      refine lv_iload_n hx hb dX4_readsCommand_210 rfl (lv_at hl 3 rfl) ?_
                      refine lv_bipush (v := (60 : Int32)) hx hb dX4_readsCommand_211 (by decide) ?_
                      refine lv_icmp_ne (tgt := 220) hx hb dX4_readsCommand_213 (by decide) (fun c121 => ?_) (fun c121 => ?_)
                      · have hf := kIfF c121 hf
                        refine lv_iconst (v := (0 : Int32)) hx hb dX4_readsCommand_220 (by decide) ?_
                        obtain ⟨v122, h123, hf⟩ := kBind hf
                        refine kgoA (krunV (wc := (wX4 cI a0 a1 a2 M SV MX ML t86.1 MH)) (As := [.int (v1.1 - (48 : Int32)), .int t86.2, .int (0 : Int32)]) (rest := []) (ci := 4) hx hb hml hown hts hK (kX4_aims l D cI a0 a1 a2 M SV MX ML t86.1 MH (v1.1 - (48 : Int32)) t86.2 (0 : Int32) v122 h123) gX4_readsCommand_X4_aims rfl rfl rfl hdX4_aims ⟨Nat.le_of_ble_eq_true rfl, Nat.le_of_ble_eq_true rfl⟩ hP hD rfl rfl rfl rfl hl.1 rfl (Nat.le_of_ble_eq_true rfl) dX4_readsCommand_221 ⟨Nat.zero_le _, Nat.zero_le _⟩) hD hS hA (fun H locs hP hD hS => ?_)
                        refine lv_istore (lv' := [(7, .int v122.1), (6, .int t86.2), (5, .int t86.1), (4, .int v113.1), (3, .int v9.1), (2, .int (v1.1 - (48 : Int32))), (0, .ref a0), (1, .int (bI x1))]) hx hb dX4_readsCommand_224 hl (by decide) rfl (fun ls hl => ?_)
                        refine lv_iconst (v := (1 : Int32)) hx hb dX4_readsCommand_226 (by decide) ?_
                        have he := Option.some.inj hf
                        have he := hO1 _ he.symm
                        subst he
                        exact kretz hx hb hr hlk hP hD hS dX4_readsCommand_227
                      · have hf := kIfT c121 hf
                        refine lv_iconst (v := (-1 : Int32)) hx hb dX4_readsCommand_216 (by decide) ?_
                        refine lv_goto (tgt := 221) hx hb dX4_readsCommand_217 (by decide) ?_
                        obtain ⟨v124, h125, hf⟩ := kBind hf
                        refine kgoA (krunV (wc := (wX4 cI a0 a1 a2 M SV MX ML t86.1 MH)) (As := [.int (v1.1 - (48 : Int32)), .int t86.2, .int (-1 : Int32)]) (rest := []) (ci := 4) hx hb hml hown hts hK (kX4_aims l D cI a0 a1 a2 M SV MX ML t86.1 MH (v1.1 - (48 : Int32)) t86.2 (-1 : Int32) v124 h125) gX4_readsCommand_X4_aims rfl rfl rfl hdX4_aims ⟨Nat.le_of_ble_eq_true rfl, Nat.le_of_ble_eq_true rfl⟩ hP hD rfl rfl rfl rfl hl.1 rfl (Nat.le_of_ble_eq_true rfl) dX4_readsCommand_221 ⟨Nat.zero_le _, Nat.zero_le _⟩) hD hS hA (fun H locs hP hD hS => ?_)
                        refine lv_istore (lv' := [(7, .int v124.1), (6, .int t86.2), (5, .int t86.1), (4, .int v113.1), (3, .int v9.1), (2, .int (v1.1 - (48 : Int32))), (0, .ref a0), (1, .int (bI x1))]) hx hb dX4_readsCommand_224 hl (by decide) rfl (fun ls hl => ?_)
                        refine lv_iconst (v := (1 : Int32)) hx hb dX4_readsCommand_226 (by decide) ?_
                        have he := Option.some.inj hf
                        have he := hO1 _ he.symm
                        subst he
                        exact kretz hx hb hr hlk hP hD hS dX4_readsCommand_227
                    · have hf := kIfT c120 hf
                      refine lv_iconst (v := (1 : Int32)) hx hb dX4_readsCommand_206 (by decide) ?_
                      refine lv_goto (tgt := 221) hx hb dX4_readsCommand_207 (by decide) ?_
                      obtain ⟨v126, h127, hf⟩ := kBind hf
                      refine kgoA (krunV (wc := (wX4 cI a0 a1 a2 M SV MX ML t86.1 MH)) (As := [.int (v1.1 - (48 : Int32)), .int t86.2, .int (1 : Int32)]) (rest := []) (ci := 4) hx hb hml hown hts hK (kX4_aims l D cI a0 a1 a2 M SV MX ML t86.1 MH (v1.1 - (48 : Int32)) t86.2 (1 : Int32) v126 h127) gX4_readsCommand_X4_aims rfl rfl rfl hdX4_aims ⟨Nat.le_of_ble_eq_true rfl, Nat.le_of_ble_eq_true rfl⟩ hP hD rfl rfl rfl rfl hl.1 rfl (Nat.le_of_ble_eq_true rfl) dX4_readsCommand_221 ⟨Nat.zero_le _, Nat.zero_le _⟩) hD hS hA (fun H locs hP hD hS => ?_)
                      refine lv_istore (lv' := [(7, .int v126.1), (6, .int t86.2), (5, .int t86.1), (4, .int v113.1), (3, .int v9.1), (2, .int (v1.1 - (48 : Int32))), (0, .ref a0), (1, .int (bI x1))]) hx hb dX4_readsCommand_224 hl (by decide) rfl (fun ls hl => ?_)
                      refine lv_iconst (v := (1 : Int32)) hx hb dX4_readsCommand_226 (by decide) ?_
                      have he := Option.some.inj hf
                      have he := hO1 _ he.symm
                      subst he
                      exact kretz hx hb hr hlk hP hD hS dX4_readsCommand_227
                · have hf := kIfF c118 hf
                  refine lv_iconst (v := (0 : Int32)) hx hb dX4_readsCommand_184 (by decide) ?_
                  have he := Option.some.inj hf
                  have he := hO1 _ he.symm
                  subst he
                  exact kretz hx hb hr hlk hP hD hS dX4_readsCommand_185
          · have hf := kIfF c115 hf
            refine lv_iload hx hb dX4_readsCommand_91 (lv_at hl 1 rfl) ?_
            refine lv_aload_n hx hb dX4_readsCommand_93 rfl (lv_at hl 5 rfl) ?_
            refine va_get (D := D) (ci := 4) (v := .int ML) (C := RX4) (T := TX4) (N := 6) hx hb hts hinX4 hown hK.1 hP 0 rfl rfl 3 (by decide) hfl121 (fun _ h9 => h9) rfl dX4_readsCommand_94 ?_
            refine lv_icmp_ge (tgt := 157) hx hb dX4_readsCommand_97 (by decide) (fun c128 => ?_) (fun c128 => ?_)
            · have hf := kIfT c128 hf
              refine lv_iload hx hb dX4_readsCommand_157 (lv_at hl 1 rfl) ?_
              refine lv_aload_n hx hb dX4_readsCommand_159 rfl (lv_at hl 5 rfl) ?_
              refine va_get (D := D) (ci := 4) (v := .int v113.2) (C := RX4) (T := TX4) (N := 6) hx hb hts hinX4 hown hK.1 hP 0 rfl rfl 4 (by decide) hfl124 (fun _ h9 => h9) rfl dX4_readsCommand_160 ?_
              refine lv_icmp_eq (tgt := 184) hx hb dX4_readsCommand_163 (by decide) (fun c129 => ?_) (fun c129 => ?_)
              · have hf := kIfT c129 hf
                refine lv_iconst (v := (0 : Int32)) hx hb dX4_readsCommand_184 (by decide) ?_
                have he := Option.some.inj hf
                have he := hO1 _ he.symm
                subst he
                exact kretz hx hb hr hlk hP hD hS dX4_readsCommand_185
              · have hf := kIfF c129 hf
                refine lv_iload hx hb dX4_readsCommand_166 (lv_at hl 1 rfl) ?_
                refine lv_aload_n hx hb dX4_readsCommand_168 rfl (lv_at hl 5 rfl) ?_
                refine va_get (D := D) (ci := 4) (v := .int v113.2) (C := RX4) (T := TX4) (N := 6) hx hb hts hinX4 hown hK.1 hP 0 rfl rfl 4 (by decide) hfl124 (fun _ h9 => h9) rfl dX4_readsCommand_169 ?_
                refine lv_isub hx hb dX4_readsCommand_172 ?_
                refine lv_iconst (v := (2 : Int32)) hx hb dX4_readsCommand_173 (by decide) ?_
                refine lv_icmp_gt (tgt := 184) hx hb dX4_readsCommand_174 (by decide) (fun c130 => ?_) (fun c130 => ?_)
                · have hf := kIfT c130 hf
                  refine lv_iconst (v := (0 : Int32)) hx hb dX4_readsCommand_184 (by decide) ?_
                  have he := Option.some.inj hf
                  have he := hO1 _ he.symm
                  subst he
                  exact kretz hx hb hr hlk hP hD hS dX4_readsCommand_185
                · have hf := kIfF c130 hf
                  refine lv_iload hx hb dX4_readsCommand_177 (lv_at hl 0 rfl) ?_
                  refine lv_bipush (v := (35 : Int32)) hx hb dX4_readsCommand_179 (by decide) ?_
                  refine lv_icmp_le (tgt := 186) hx hb dX4_readsCommand_181 (by decide) (fun c131 => ?_) (fun c131 => ?_)
                  · have hf := kIfT c131 hf
                    refine lv_aload_n hx hb dX4_readsCommand_186 rfl (lv_at hl 5 rfl) ?_
                    refine lv_iload hx hb dX4_readsCommand_187 (lv_at hl 1 rfl) ?_
                    refine va_put (D := D) (ci := 4) (v := .int t86.1) (ty := .int) (C := RX4) (T := TX4) (N := 6) hx hb hts hinX4 tyX4 tyX4_ok nmX4 hown hK.1 hP hD hS 0 rfl rfl 4 (by decide) hfl124 (fun _ h9 => h9) rfl (by decide +kernel) rfl rfl (Nat.le_of_ble_eq_true rfl) dX4_readsCommand_189 (fun H locs hP hD hS => ?_)
                    have hP : va_P D vwCl (wX4 cI a0 a1 a2 M SV MX ML t86.1 MH) H := hP
                    have hD : va_D A (wX4 cI a0 a1 a2 M SV MX ML t86.1 MH) := hD
                    refine lv_iload_n hx hb dX4_readsCommand_192 rfl (lv_at hl 6 rfl) ?_
                    refine kif_eqb (tgt := 226) hx hb dX4_readsCommand_193 (by decide) (fun c132 => ?_) (fun c132 => ?_)
                    · have hf := kIfF c132 hf
                      refine lv_iconst (v := (1 : Int32)) hx hb dX4_readsCommand_226 (by decide) ?_
                      have he := Option.some.inj hf
                      have he := hO1 _ he.symm
                      subst he
                      exact kretz hx hb hr hlk hP hD hS dX4_readsCommand_227
                    · have hf := kIfT c132 hf
                      refine lv_aload_n hx hb dX4_readsCommand_196 rfl (lv_at hl 5 rfl) ?_
                      refine lv_iload_n hx hb dX4_readsCommand_197 rfl (lv_at hl 4 rfl) ?_
                      refine lv_iload hx hb dX4_readsCommand_198 (lv_at hl 0 rfl) ?_
                      refine lv_iload_n hx hb dX4_readsCommand_200 rfl (lv_at hl 3 rfl) ?_
                      refine lv_bipush (v := (62 : Int32)) hx hb dX4_readsCommand_201 (by decide) ?_
                      refine lv_icmp_ne (tgt := 210) hx hb dX4_readsCommand_203 (by decide) (fun c133 => ?_) (fun c133 => ?_)
                      · have hf := kIfF c133 hf
                        refine lv_iload_n hx hb dX4_readsCommand_210 rfl (lv_at hl 3 rfl) ?_
                        refine lv_bipush (v := (60 : Int32)) hx hb dX4_readsCommand_211 (by decide) ?_
                        refine lv_icmp_ne (tgt := 220) hx hb dX4_readsCommand_213 (by decide) (fun c134 => ?_) (fun c134 => ?_)
                        · have hf := kIfF c134 hf
                          refine lv_iconst (v := (0 : Int32)) hx hb dX4_readsCommand_220 (by decide) ?_
                          obtain ⟨v135, h136, hf⟩ := kBind hf
                          refine kgoA (krunV (wc := (wX4 cI a0 a1 a2 M SV MX ML t86.1 MH)) (As := [.int (v1.1 - (48 : Int32)), .int t86.2, .int (0 : Int32)]) (rest := []) (ci := 4) hx hb hml hown hts hK (kX4_aims l D cI a0 a1 a2 M SV MX ML t86.1 MH (v1.1 - (48 : Int32)) t86.2 (0 : Int32) v135 h136) gX4_readsCommand_X4_aims rfl rfl rfl hdX4_aims ⟨Nat.le_of_ble_eq_true rfl, Nat.le_of_ble_eq_true rfl⟩ hP hD rfl rfl rfl rfl hl.1 rfl (Nat.le_of_ble_eq_true rfl) dX4_readsCommand_221 ⟨Nat.zero_le _, Nat.zero_le _⟩) hD hS hA (fun H locs hP hD hS => ?_)
                          refine lv_istore (lv' := [(7, .int v135.1), (6, .int t86.2), (5, .int t86.1), (4, .int v113.1), (3, .int v9.1), (2, .int (v1.1 - (48 : Int32))), (0, .ref a0), (1, .int (bI x1))]) hx hb dX4_readsCommand_224 hl (by decide) rfl (fun ls hl => ?_)
                          refine lv_iconst (v := (1 : Int32)) hx hb dX4_readsCommand_226 (by decide) ?_
                          have he := Option.some.inj hf
                          have he := hO1 _ he.symm
                          subst he
                          exact kretz hx hb hr hlk hP hD hS dX4_readsCommand_227
                        · have hf := kIfT c134 hf
                          refine lv_iconst (v := (-1 : Int32)) hx hb dX4_readsCommand_216 (by decide) ?_
                          refine lv_goto (tgt := 221) hx hb dX4_readsCommand_217 (by decide) ?_
                          obtain ⟨v137, h138, hf⟩ := kBind hf
                          refine kgoA (krunV (wc := (wX4 cI a0 a1 a2 M SV MX ML t86.1 MH)) (As := [.int (v1.1 - (48 : Int32)), .int t86.2, .int (-1 : Int32)]) (rest := []) (ci := 4) hx hb hml hown hts hK (kX4_aims l D cI a0 a1 a2 M SV MX ML t86.1 MH (v1.1 - (48 : Int32)) t86.2 (-1 : Int32) v137 h138) gX4_readsCommand_X4_aims rfl rfl rfl hdX4_aims ⟨Nat.le_of_ble_eq_true rfl, Nat.le_of_ble_eq_true rfl⟩ hP hD rfl rfl rfl rfl hl.1 rfl (Nat.le_of_ble_eq_true rfl) dX4_readsCommand_221 ⟨Nat.zero_le _, Nat.zero_le _⟩) hD hS hA (fun H locs hP hD hS => ?_)
                          refine lv_istore (lv' := [(7, .int v137.1), (6, .int t86.2), (5, .int t86.1), (4, .int v113.1), (3, .int v9.1), (2, .int (v1.1 - (48 : Int32))), (0, .ref a0), (1, .int (bI x1))]) hx hb dX4_readsCommand_224 hl (by decide) rfl (fun ls hl => ?_)
                          refine lv_iconst (v := (1 : Int32)) hx hb dX4_readsCommand_226 (by decide) ?_
                          have he := Option.some.inj hf
                          have he := hO1 _ he.symm
                          subst he
                          exact kretz hx hb hr hlk hP hD hS dX4_readsCommand_227
                      · have hf := kIfT c133 hf
                        refine lv_iconst (v := (1 : Int32)) hx hb dX4_readsCommand_206 (by decide) ?_
                        refine lv_goto (tgt := 221) hx hb dX4_readsCommand_207 (by decide) ?_
                        obtain ⟨v139, h140, hf⟩ := kBind hf
                        refine kgoA (krunV (wc := (wX4 cI a0 a1 a2 M SV MX ML t86.1 MH)) (As := [.int (v1.1 - (48 : Int32)), .int t86.2, .int (1 : Int32)]) (rest := []) (ci := 4) hx hb hml hown hts hK (kX4_aims l D cI a0 a1 a2 M SV MX ML t86.1 MH (v1.1 - (48 : Int32)) t86.2 (1 : Int32) v139 h140) gX4_readsCommand_X4_aims rfl rfl rfl hdX4_aims ⟨Nat.le_of_ble_eq_true rfl, Nat.le_of_ble_eq_true rfl⟩ hP hD rfl rfl rfl rfl hl.1 rfl (Nat.le_of_ble_eq_true rfl) dX4_readsCommand_221 ⟨Nat.zero_le _, Nat.zero_le _⟩) hD hS hA (fun H locs hP hD hS => ?_)
                        refine lv_istore (lv' := [(7, .int v139.1), (6, .int t86.2), (5, .int t86.1), (4, .int v113.1), (3, .int v9.1), (2, .int (v1.1 - (48 : Int32))), (0, .ref a0), (1, .int (bI x1))]) hx hb dX4_readsCommand_224 hl (by decide) rfl (fun ls hl => ?_)
                        refine lv_iconst (v := (1 : Int32)) hx hb dX4_readsCommand_226 (by decide) ?_
                        have he := Option.some.inj hf
                        have he := hO1 _ he.symm
                        subst he
                        exact kretz hx hb hr hlk hP hD hS dX4_readsCommand_227
                  · have hf := kIfF c131 hf
                    refine lv_iconst (v := (0 : Int32)) hx hb dX4_readsCommand_184 (by decide) ?_
                    have he := Option.some.inj hf
                    have he := hO1 _ he.symm
                    subst he
                    exact kretz hx hb hr hlk hP hD hS dX4_readsCommand_185
            · have hf := kIfF c128 hf
              refine lv_aload_n hx hb dX4_readsCommand_100 rfl (lv_at hl 5 rfl) ?_
              refine va_get (D := D) (ci := 4) (v := .ref a2) (C := RX4) (T := TX4) (N := 6) hx hb hts hinX4 hown hK.1 hP 0 rfl rfl 2 (by decide) hfl13 (fun _ h9 => h9) rfl dX4_readsCommand_101 ?_
              refine lv_iload hx hb dX4_readsCommand_104 (lv_at hl 1 rfl) ?_
              obtain ⟨v141, h142, hf⟩ := kBind hf
              refine krd hx hb hK hP 2 rfl h142 dX4_readsCommand_106 ?_
              refine lv_bipush (v := (48 : Int32)) hx hb dX4_readsCommand_107 (by decide) ?_
              refine lv_bipush (v := (57 : Int32)) hx hb dX4_readsCommand_109 (by decide) ?_
              obtain ⟨v143, h144, hf⟩ := kBind hf
              refine kgoR (krunS (wc := ([] : va_W)) (As := [.int v141, .int (48 : Int32), .int (57 : Int32)]) (rest := []) hx hb hml hown hts hK (kX4_in l D cI v141 (48 : Int32) (57 : Int32) v143 h144) gX4_readsCommand_X4_in rfl rfl rfl hdX4_in ⟨Nat.le_of_ble_eq_true rfl, Nat.le_of_ble_eq_true rfl⟩ k_P0 (k_D0 A) rfl hl.1 rfl (Nat.le_of_ble_eq_true rfl) dX4_readsCommand_111 ⟨Nat.zero_le _, Nat.zero_le _⟩) hP hD hS hA [] rfl (fun H locs hP hS => ?_)
              refine kif_eqb (tgt := 157) hx hb dX4_readsCommand_114 (by decide) (fun c145 => ?_) (fun c145 => ?_)
              · have hf := kIfF c145 hf
                refine lv_iload hx hb dX4_readsCommand_157 (lv_at hl 1 rfl) ?_
                refine lv_aload_n hx hb dX4_readsCommand_159 rfl (lv_at hl 5 rfl) ?_
                refine va_get (D := D) (ci := 4) (v := .int v113.2) (C := RX4) (T := TX4) (N := 6) hx hb hts hinX4 hown hK.1 hP 0 rfl rfl 4 (by decide) hfl124 (fun _ h9 => h9) rfl dX4_readsCommand_160 ?_
                refine lv_icmp_eq (tgt := 184) hx hb dX4_readsCommand_163 (by decide) (fun c146 => ?_) (fun c146 => ?_)
                · have hf := kIfT c146 hf
                  refine lv_iconst (v := (0 : Int32)) hx hb dX4_readsCommand_184 (by decide) ?_
                  have he := Option.some.inj hf
                  have he := hO1 _ he.symm
                  subst he
                  exact kretz hx hb hr hlk hP hD hS dX4_readsCommand_185
                · have hf := kIfF c146 hf
                  refine lv_iload hx hb dX4_readsCommand_166 (lv_at hl 1 rfl) ?_
                  refine lv_aload_n hx hb dX4_readsCommand_168 rfl (lv_at hl 5 rfl) ?_
                  refine va_get (D := D) (ci := 4) (v := .int v113.2) (C := RX4) (T := TX4) (N := 6) hx hb hts hinX4 hown hK.1 hP 0 rfl rfl 4 (by decide) hfl124 (fun _ h9 => h9) rfl dX4_readsCommand_169 ?_
                  refine lv_isub hx hb dX4_readsCommand_172 ?_
                  refine lv_iconst (v := (2 : Int32)) hx hb dX4_readsCommand_173 (by decide) ?_
                  refine lv_icmp_gt (tgt := 184) hx hb dX4_readsCommand_174 (by decide) (fun c147 => ?_) (fun c147 => ?_)
                  · have hf := kIfT c147 hf
                    refine lv_iconst (v := (0 : Int32)) hx hb dX4_readsCommand_184 (by decide) ?_
                    have he := Option.some.inj hf
                    have he := hO1 _ he.symm
                    subst he
                    exact kretz hx hb hr hlk hP hD hS dX4_readsCommand_185
                  · have hf := kIfF c147 hf
                    refine lv_iload hx hb dX4_readsCommand_177 (lv_at hl 0 rfl) ?_
                    refine lv_bipush (v := (35 : Int32)) hx hb dX4_readsCommand_179 (by decide) ?_
                    refine lv_icmp_le (tgt := 186) hx hb dX4_readsCommand_181 (by decide) (fun c148 => ?_) (fun c148 => ?_)
                    · have hf := kIfT c148 hf
                      refine lv_aload_n hx hb dX4_readsCommand_186 rfl (lv_at hl 5 rfl) ?_
                      refine lv_iload hx hb dX4_readsCommand_187 (lv_at hl 1 rfl) ?_
                      refine va_put (D := D) (ci := 4) (v := .int t86.1) (ty := .int) (C := RX4) (T := TX4) (N := 6) hx hb hts hinX4 tyX4 tyX4_ok nmX4 hown hK.1 hP hD hS 0 rfl rfl 4 (by decide) hfl124 (fun _ h9 => h9) rfl (by decide +kernel) rfl rfl (Nat.le_of_ble_eq_true rfl) dX4_readsCommand_189 (fun H locs hP hD hS => ?_)
                      have hP : va_P D vwCl (wX4 cI a0 a1 a2 M SV MX ML t86.1 MH) H := hP
                      have hD : va_D A (wX4 cI a0 a1 a2 M SV MX ML t86.1 MH) := hD
                      refine lv_iload_n hx hb dX4_readsCommand_192 rfl (lv_at hl 6 rfl) ?_
                      refine kif_eqb (tgt := 226) hx hb dX4_readsCommand_193 (by decide) (fun c149 => ?_) (fun c149 => ?_)
                      · have hf := kIfF c149 hf
                        refine lv_iconst (v := (1 : Int32)) hx hb dX4_readsCommand_226 (by decide) ?_
                        have he := Option.some.inj hf
                        have he := hO1 _ he.symm
                        subst he
                        exact kretz hx hb hr hlk hP hD hS dX4_readsCommand_227
                      · have hf := kIfT c149 hf
                        refine lv_aload_n hx hb dX4_readsCommand_196 rfl (lv_at hl 5 rfl) ?_
                        refine lv_iload_n hx hb dX4_readsCommand_197 rfl (lv_at hl 4 rfl) ?_
                        refine lv_iload hx hb dX4_readsCommand_198 (lv_at hl 0 rfl) ?_
                        refine lv_iload_n hx hb dX4_readsCommand_200 rfl (lv_at hl 3 rfl) ?_
                        refine lv_bipush (v := (62 : Int32)) hx hb dX4_readsCommand_201 (by decide) ?_
                        refine lv_icmp_ne (tgt := 210) hx hb dX4_readsCommand_203 (by decide) (fun c150 => ?_) (fun c150 => ?_)
                        · have hf := kIfF c150 hf
                          refine lv_iload_n hx hb dX4_readsCommand_210 rfl (lv_at hl 3 rfl) ?_
                          refine lv_bipush (v := (60 : Int32)) hx hb dX4_readsCommand_211 (by decide) ?_
                          refine lv_icmp_ne (tgt := 220) hx hb dX4_readsCommand_213 (by decide) (fun c151 => ?_) (fun c151 => ?_)
                          · have hf := kIfF c151 hf
                            refine lv_iconst (v := (0 : Int32)) hx hb dX4_readsCommand_220 (by decide) ?_
                            obtain ⟨v152, h153, hf⟩ := kBind hf
                            refine kgoA (krunV (wc := (wX4 cI a0 a1 a2 M SV MX ML t86.1 MH)) (As := [.int (v1.1 - (48 : Int32)), .int t86.2, .int (0 : Int32)]) (rest := []) (ci := 4) hx hb hml hown hts hK (kX4_aims l D cI a0 a1 a2 M SV MX ML t86.1 MH (v1.1 - (48 : Int32)) t86.2 (0 : Int32) v152 h153) gX4_readsCommand_X4_aims rfl rfl rfl hdX4_aims ⟨Nat.le_of_ble_eq_true rfl, Nat.le_of_ble_eq_true rfl⟩ hP hD rfl rfl rfl rfl hl.1 rfl (Nat.le_of_ble_eq_true rfl) dX4_readsCommand_221 ⟨Nat.zero_le _, Nat.zero_le _⟩) hD hS hA (fun H locs hP hD hS => ?_)
                            refine lv_istore (lv' := [(7, .int v152.1), (6, .int t86.2), (5, .int t86.1), (4, .int v113.1), (3, .int v9.1), (2, .int (v1.1 - (48 : Int32))), (0, .ref a0), (1, .int (bI x1))]) hx hb dX4_readsCommand_224 hl (by decide) rfl (fun ls hl => ?_)
                            refine lv_iconst (v := (1 : Int32)) hx hb dX4_readsCommand_226 (by decide) ?_
                            have he := Option.some.inj hf
                            have he := hO1 _ he.symm
                            subst he
                            exact kretz hx hb hr hlk hP hD hS dX4_readsCommand_227
                          · have hf := kIfT c151 hf
                            refine lv_iconst (v := (-1 : Int32)) hx hb dX4_readsCommand_216 (by decide) ?_
                            refine lv_goto (tgt := 221) hx hb dX4_readsCommand_217 (by decide) ?_
                            obtain ⟨v154, h155, hf⟩ := kBind hf
                            refine kgoA (krunV (wc := (wX4 cI a0 a1 a2 M SV MX ML t86.1 MH)) (As := [.int (v1.1 - (48 : Int32)), .int t86.2, .int (-1 : Int32)]) (rest := []) (ci := 4) hx hb hml hown hts hK (kX4_aims l D cI a0 a1 a2 M SV MX ML t86.1 MH (v1.1 - (48 : Int32)) t86.2 (-1 : Int32) v154 h155) gX4_readsCommand_X4_aims rfl rfl rfl hdX4_aims ⟨Nat.le_of_ble_eq_true rfl, Nat.le_of_ble_eq_true rfl⟩ hP hD rfl rfl rfl rfl hl.1 rfl (Nat.le_of_ble_eq_true rfl) dX4_readsCommand_221 ⟨Nat.zero_le _, Nat.zero_le _⟩) hD hS hA (fun H locs hP hD hS => ?_)
                            refine lv_istore (lv' := [(7, .int v154.1), (6, .int t86.2), (5, .int t86.1), (4, .int v113.1), (3, .int v9.1), (2, .int (v1.1 - (48 : Int32))), (0, .ref a0), (1, .int (bI x1))]) hx hb dX4_readsCommand_224 hl (by decide) rfl (fun ls hl => ?_)
                            refine lv_iconst (v := (1 : Int32)) hx hb dX4_readsCommand_226 (by decide) ?_
                            have he := Option.some.inj hf
                            have he := hO1 _ he.symm
                            subst he
                            exact kretz hx hb hr hlk hP hD hS dX4_readsCommand_227
                        · have hf := kIfT c150 hf
                          refine lv_iconst (v := (1 : Int32)) hx hb dX4_readsCommand_206 (by decide) ?_
                          refine lv_goto (tgt := 221) hx hb dX4_readsCommand_207 (by decide) ?_
                          obtain ⟨v156, h157, hf⟩ := kBind hf
                          refine kgoA (krunV (wc := (wX4 cI a0 a1 a2 M SV MX ML t86.1 MH)) (As := [.int (v1.1 - (48 : Int32)), .int t86.2, .int (1 : Int32)]) (rest := []) (ci := 4) hx hb hml hown hts hK (kX4_aims l D cI a0 a1 a2 M SV MX ML t86.1 MH (v1.1 - (48 : Int32)) t86.2 (1 : Int32) v156 h157) gX4_readsCommand_X4_aims rfl rfl rfl hdX4_aims ⟨Nat.le_of_ble_eq_true rfl, Nat.le_of_ble_eq_true rfl⟩ hP hD rfl rfl rfl rfl hl.1 rfl (Nat.le_of_ble_eq_true rfl) dX4_readsCommand_221 ⟨Nat.zero_le _, Nat.zero_le _⟩) hD hS hA (fun H locs hP hD hS => ?_)
                          refine lv_istore (lv' := [(7, .int v156.1), (6, .int t86.2), (5, .int t86.1), (4, .int v113.1), (3, .int v9.1), (2, .int (v1.1 - (48 : Int32))), (0, .ref a0), (1, .int (bI x1))]) hx hb dX4_readsCommand_224 hl (by decide) rfl (fun ls hl => ?_)
                          refine lv_iconst (v := (1 : Int32)) hx hb dX4_readsCommand_226 (by decide) ?_
                          have he := Option.some.inj hf
                          have he := hO1 _ he.symm
                          subst he
                          exact kretz hx hb hr hlk hP hD hS dX4_readsCommand_227
                    · have hf := kIfF c148 hf
                      refine lv_iconst (v := (0 : Int32)) hx hb dX4_readsCommand_184 (by decide) ?_
                      have he := Option.some.inj hf
                      have he := hO1 _ he.symm
                      subst he
                      exact kretz hx hb hr hlk hP hD hS dX4_readsCommand_185
              · have hf := kIfT c145 hf
                refine lv_iload hx hb dX4_readsCommand_117 (lv_at hl 1 rfl) ?_
                refine lv_aload_n hx hb dX4_readsCommand_119 rfl (lv_at hl 5 rfl) ?_
                refine va_get (D := D) (ci := 4) (v := .int v113.2) (C := RX4) (T := TX4) (N := 6) hx hb hts hinX4 hown hK.1 hP 0 rfl rfl 4 (by decide) hfl124 (fun _ h9 => h9) rfl dX4_readsCommand_120 ?_
                refine lv_isub hx hb dX4_readsCommand_123 ?_
                refine lv_iconst (v := (3 : Int32)) hx hb dX4_readsCommand_124 (by decide) ?_
                refine lv_icmp_ge (tgt := 147) hx hb dX4_readsCommand_125 (by decide) (fun c158 => ?_) (fun c158 => ?_)
                · have hf := kIfT c158 hf
                  refine lv_iload hx hb dX4_readsCommand_147 (lv_at hl 0 rfl) ?_
                  refine lv_istore (lv' := [(6, .int t86.2), (5, .int t86.1), (4, .int v113.1), (3, .int v9.1), (2, .int (v1.1 - (48 : Int32))), (0, .ref a0), (1, .int (bI x1))]) hx hb dX4_readsCommand_149 hl (by decide) rfl (fun ls hl => ?_)
                  refine lv_iinc (v := t86.1 + (1 : Int32)) (lv' := [(5, .int (t86.1 + (1 : Int32))), (6, .int t86.2), (4, .int v113.1), (3, .int v9.1), (2, .int (v1.1 - (48 : Int32))), (0, .ref a0), (1, .int (bI x1))]) hx hb dX4_readsCommand_151 hl (k := 1) rfl rfl (by decide) rfl (fun ls hl => ?_)
                  refine lv_goto (tgt := 86) hx hb dX4_readsCommand_154 (by decide) ?_
                  obtain ⟨z159, hz159⟩ : ∃ z : Int32, z = t86.1 + (1 : Int32) := ⟨_, rfl⟩
                  rw [← hz159] at hf
                  have he := (Option.some.inj hf).symm
                  have hl : lv_has ls 8 [(6, .int t86.2), (5, .int z159), (4, .int v113.1), (3, .int v9.1), (2, .int (v1.1 - (48 : Int32))), (0, .ref a0), (1, .int (bI x1))] := by rw [hz159]; exact lv_sub hl [1, 0, 2, 3, 4, 5, 6] rfl
                  exact hI1 _ he H locs ls hP hD hS hl
                · have hf := kIfF c158 hf
                  refine lv_bipush (v := (10 : Int32)) hx hb dX4_readsCommand_128 (by decide) ?_
                  refine lv_iload hx hb dX4_readsCommand_130 (lv_at hl 0 rfl) ?_
                  refine lv_imul hx hb dX4_readsCommand_132 ?_
                  refine lv_aload_n hx hb dX4_readsCommand_133 rfl (lv_at hl 5 rfl) ?_
                  refine va_get (D := D) (ci := 4) (v := .ref a2) (C := RX4) (T := TX4) (N := 6) hx hb hts hinX4 hown hK.1 hP 0 rfl rfl 2 (by decide) hfl13 (fun _ h9 => h9) rfl dX4_readsCommand_134 ?_
                  refine lv_iload hx hb dX4_readsCommand_137 (lv_at hl 1 rfl) ?_
                  obtain ⟨v160, h161, hf⟩ := kBind hf
                  refine krd hx hb hK hP 2 rfl h161 dX4_readsCommand_139 ?_
                  refine lv_iadd hx hb dX4_readsCommand_140 ?_
                  refine lv_bipush (v := (48 : Int32)) hx hb dX4_readsCommand_141 (by decide) ?_
                  refine lv_isub hx hb dX4_readsCommand_143 ?_
                  refine lv_goto (tgt := 149) hx hb dX4_readsCommand_144 (by decide) ?_
                  refine lv_istore (lv' := [(6, .int ((((10 : Int32) * t86.2) + v160) - (48 : Int32))), (5, .int t86.1), (4, .int v113.1), (3, .int v9.1), (2, .int (v1.1 - (48 : Int32))), (0, .ref a0), (1, .int (bI x1))]) hx hb dX4_readsCommand_149 hl (by decide) rfl (fun ls hl => ?_)
                  refine lv_iinc (v := t86.1 + (1 : Int32)) (lv' := [(5, .int (t86.1 + (1 : Int32))), (6, .int ((((10 : Int32) * t86.2) + v160) - (48 : Int32))), (4, .int v113.1), (3, .int v9.1), (2, .int (v1.1 - (48 : Int32))), (0, .ref a0), (1, .int (bI x1))]) hx hb dX4_readsCommand_151 hl (k := 1) rfl rfl (by decide) rfl (fun ls hl => ?_)
                  refine lv_goto (tgt := 86) hx hb dX4_readsCommand_154 (by decide) ?_
                  obtain ⟨z162, hz162⟩ : ∃ z : Int32, z = (((10 : Int32) * t86.2) + v160) - (48 : Int32) := ⟨_, rfl⟩
                  rw [← hz162] at hf
                  obtain ⟨z163, hz163⟩ : ∃ z : Int32, z = t86.1 + (1 : Int32) := ⟨_, rfl⟩
                  rw [← hz163] at hf
                  have he := (Option.some.inj hf).symm
                  have hl : lv_has ls 8 [(6, .int z162), (5, .int z163), (4, .int v113.1), (3, .int v9.1), (2, .int (v1.1 - (48 : Int32))), (0, .ref a0), (1, .int (bI x1))] := by rw [hz162, hz163]; exact lv_sub hl [1, 0, 2, 3, 4, 5, 6] rfl
                  exact hI1 _ he H locs ls hP hD hS hl
        · have hf := kIfF c112 hf
          refine lv_iload_n hx hb dX4_readsCommand_53 rfl (lv_at hl 0 rfl) ?_
          refine lv_bipush (v := (126 : Int32)) hx hb dX4_readsCommand_54 (by decide) ?_
          refine lv_icmp_eq (tgt := 61) hx hb dX4_readsCommand_56 (by decide) (fun c164 => ?_) (fun c164 => ?_)
          · have hf := kIfT c164 hf
            refine lv_aload_n hx hb dX4_readsCommand_61 rfl (lv_at hl 2 rfl) ?_
            refine lv_dup hx hb dX4_readsCommand_62 rfl ?_
            refine va_get (D := D) (ci := 4) (v := .int v9.2) (C := RX4) (T := TX4) (N := 6) hx hb hts hinX4 hown hK.1 hP 0 rfl rfl 4 (by decide) hfl124 (fun _ h9 => h9) rfl dX4_readsCommand_63 ?_
            refine lv_iconst (v := (1 : Int32)) hx hb dX4_readsCommand_66 (by decide) ?_
            refine lv_iadd hx hb dX4_readsCommand_67 ?_
            refine va_put (D := D) (ci := 4) (v := .int (v9.2 + (1 : Int32))) (ty := .int) (C := RX4) (T := TX4) (N := 6) hx hb hts hinX4 tyX4 tyX4_ok nmX4 hown hK.1 hP hD hS 0 rfl rfl 4 (by decide) hfl124 (fun _ h9 => h9) rfl (by decide +kernel) rfl rfl (Nat.le_of_ble_eq_true rfl) dX4_readsCommand_68 (fun H locs hP hD hS => ?_)
            have hP : va_P D vwCl (wX4 cI a0 a1 a2 M SV MX ML (v9.2 + (1 : Int32)) MH) H := hP
            have hD : va_D A (wX4 cI a0 a1 a2 M SV MX ML (v9.2 + (1 : Int32)) MH) := hD
            refine lv_aload_n hx hb dX4_readsCommand_71 rfl (lv_at hl 2 rfl) ?_
            obtain ⟨v165, h166, hf⟩ := kBind hf
            refine kgoA (krunV (wc := (wX4 cI a0 a1 a2 M SV MX ML (v9.2 + (1 : Int32)) MH)) (As := []) (rest := []) (ci := 4) hx hb hml hown hts hK (kX4_here l D cI fu a0 a1 a2 M SV MX ML (v9.2 + (1 : Int32)) MH v165 h166) gX4_readsCommand_X4_here rfl rfl rfl hdX4_here ⟨Nat.le_of_ble_eq_true rfl, Nat.le_of_ble_eq_true rfl⟩ hP hD rfl rfl rfl rfl hl.1 rfl (Nat.le_of_ble_eq_true rfl) dX4_readsCommand_72 ⟨Nat.zero_le _, Nat.zero_le _⟩) hD hS hA (fun H locs hP hD hS => ?_)
            refine lv_istore (lv' := [(4, .int v165.1), (3, .int v9.1), (2, .int (v1.1 - (48 : Int32))), (0, .ref a0), (1, .int (bI x1))]) hx hb dX4_readsCommand_75 hl (by decide) rfl (fun ls hl => ?_)
            refine lv_aload_n hx hb dX4_readsCommand_77 rfl (lv_at hl 3 rfl) ?_
            refine va_get (D := D) (ci := 4) (v := .int v165.2) (C := RX4) (T := TX4) (N := 6) hx hb hts hinX4 hown hK.1 hP 0 rfl rfl 4 (by decide) hfl124 (fun _ h9 => h9) rfl dX4_readsCommand_78 ?_
            refine lv_istore (lv' := [(5, .int v165.2), (4, .int v165.1), (3, .int v9.1), (2, .int (v1.1 - (48 : Int32))), (0, .ref a0), (1, .int (bI x1))]) hx hb dX4_readsCommand_81 hl (by decide) rfl (fun ls hl => ?_)
            refine lv_iconst (v := (0 : Int32)) hx hb dX4_readsCommand_83 (by decide) ?_
            refine lv_istore (lv' := [(6, .int (0 : Int32)), (5, .int v165.2), (4, .int v165.1), (3, .int v9.1), (2, .int (v1.1 - (48 : Int32))), (0, .ref a0), (1, .int (bI x1))]) hx hb dX4_readsCommand_84 hl (by decide) rfl (fun ls hl => ?_)
            have hl : lv_has ls 8 [(6, .int (0 : Int32)), (5, .int v165.2), (4, .int v165.1), (3, .int v9.1), (2, .int (v1.1 - (48 : Int32))), (0, .ref a0), (1, .int (bI x1))] := hl
            refine klp hf (fun t86 : Int32 × Int32 => (wX4 cI a0 a1 a2 M SV MX ML v165.2 MH)) 8 (fun t86 : Int32 × Int32 => [(6, .int t86.2), (5, .int t86.1), (4, .int v165.1), (3, .int v9.1), (2, .int (v1.1 - (48 : Int32))), (0, .ref a0), (1, .int (bI x1))]) ?_ hP hD hS hl
            intro t86 x86_ hf hI1 hO1 H locs ls hP hD hS hl
            unfold fX4_readsCommand_L86 at hf
            have hP : va_P D vwCl (wX4 cI a0 a1 a2 M SV MX ML v165.2 MH) H := hP
            have hD : va_D A (wX4 cI a0 a1 a2 M SV MX ML v165.2 MH) := hD
            have hl : lv_has ls 8 [(6, .int t86.2), (5, .int t86.1), (4, .int v165.1), (3, .int v9.1), (2, .int (v1.1 - (48 : Int32))), (0, .ref a0), (1, .int (bI x1))] := hl
            refine lv_iload hx hb dX4_readsCommand_86 (lv_at hl 2 rfl) ?_
            refine lv_if_lt (tgt := 157) hx hb dX4_readsCommand_88 (by decide) (fun c167 => ?_) (fun c167 => ?_)
            · have hf := kIfT c167 hf
              refine lv_iload hx hb dX4_readsCommand_157 (lv_at hl 1 rfl) ?_
              refine lv_aload_n hx hb dX4_readsCommand_159 rfl (lv_at hl 5 rfl) ?_
              refine va_get (D := D) (ci := 4) (v := .int v165.2) (C := RX4) (T := TX4) (N := 6) hx hb hts hinX4 hown hK.1 hP 0 rfl rfl 4 (by decide) hfl124 (fun _ h9 => h9) rfl dX4_readsCommand_160 ?_
              refine lv_icmp_eq (tgt := 184) hx hb dX4_readsCommand_163 (by decide) (fun c168 => ?_) (fun c168 => ?_)
              · have hf := kIfT c168 hf
                refine lv_iconst (v := (0 : Int32)) hx hb dX4_readsCommand_184 (by decide) ?_
                have he := Option.some.inj hf
                have he := hO1 _ he.symm
                subst he
                exact kretz hx hb hr hlk hP hD hS dX4_readsCommand_185
              · have hf := kIfF c168 hf
                refine lv_iload hx hb dX4_readsCommand_166 (lv_at hl 1 rfl) ?_
                refine lv_aload_n hx hb dX4_readsCommand_168 rfl (lv_at hl 5 rfl) ?_
                refine va_get (D := D) (ci := 4) (v := .int v165.2) (C := RX4) (T := TX4) (N := 6) hx hb hts hinX4 hown hK.1 hP 0 rfl rfl 4 (by decide) hfl124 (fun _ h9 => h9) rfl dX4_readsCommand_169 ?_
                refine lv_isub hx hb dX4_readsCommand_172 ?_
                refine lv_iconst (v := (2 : Int32)) hx hb dX4_readsCommand_173 (by decide) ?_
                refine lv_icmp_gt (tgt := 184) hx hb dX4_readsCommand_174 (by decide) (fun c169 => ?_) (fun c169 => ?_)
                · have hf := kIfT c169 hf
                  refine lv_iconst (v := (0 : Int32)) hx hb dX4_readsCommand_184 (by decide) ?_
                  have he := Option.some.inj hf
                  have he := hO1 _ he.symm
                  subst he
                  exact kretz hx hb hr hlk hP hD hS dX4_readsCommand_185
                · have hf := kIfF c169 hf
                  refine lv_iload hx hb dX4_readsCommand_177 (lv_at hl 0 rfl) ?_
                  refine lv_bipush (v := (35 : Int32)) hx hb dX4_readsCommand_179 (by decide) ?_
                  refine lv_icmp_le (tgt := 186) hx hb dX4_readsCommand_181 (by decide) (fun c170 => ?_) (fun c170 => ?_)
                  · have hf := kIfT c170 hf
                    refine lv_aload_n hx hb dX4_readsCommand_186 rfl (lv_at hl 5 rfl) ?_
                    refine lv_iload hx hb dX4_readsCommand_187 (lv_at hl 1 rfl) ?_
                    refine va_put (D := D) (ci := 4) (v := .int t86.1) (ty := .int) (C := RX4) (T := TX4) (N := 6) hx hb hts hinX4 tyX4 tyX4_ok nmX4 hown hK.1 hP hD hS 0 rfl rfl 4 (by decide) hfl124 (fun _ h9 => h9) rfl (by decide +kernel) rfl rfl (Nat.le_of_ble_eq_true rfl) dX4_readsCommand_189 (fun H locs hP hD hS => ?_)
                    have hP : va_P D vwCl (wX4 cI a0 a1 a2 M SV MX ML t86.1 MH) H := hP
                    have hD : va_D A (wX4 cI a0 a1 a2 M SV MX ML t86.1 MH) := hD
                    refine lv_iload_n hx hb dX4_readsCommand_192 rfl (lv_at hl 6 rfl) ?_
                    refine kif_eqb (tgt := 226) hx hb dX4_readsCommand_193 (by decide) (fun c171 => ?_) (fun c171 => ?_)
                    · have hf := kIfF c171 hf
                      refine lv_iconst (v := (1 : Int32)) hx hb dX4_readsCommand_226 (by decide) ?_
                      have he := Option.some.inj hf
                      have he := hO1 _ he.symm
                      subst he
                      exact kretz hx hb hr hlk hP hD hS dX4_readsCommand_227
                    · have hf := kIfT c171 hf
                      refine lv_aload_n hx hb dX4_readsCommand_196 rfl (lv_at hl 5 rfl) ?_
                      refine lv_iload_n hx hb dX4_readsCommand_197 rfl (lv_at hl 4 rfl) ?_
                      refine lv_iload hx hb dX4_readsCommand_198 (lv_at hl 0 rfl) ?_
                      refine lv_iload_n hx hb dX4_readsCommand_200 rfl (lv_at hl 3 rfl) ?_
                      refine lv_bipush (v := (62 : Int32)) hx hb dX4_readsCommand_201 (by decide) ?_
                      refine lv_icmp_ne (tgt := 210) hx hb dX4_readsCommand_203 (by decide) (fun c172 => ?_) (fun c172 => ?_)
                      · have hf := kIfF c172 hf
                        refine lv_iload_n hx hb dX4_readsCommand_210 rfl (lv_at hl 3 rfl) ?_
                        refine lv_bipush (v := (60 : Int32)) hx hb dX4_readsCommand_211 (by decide) ?_
                        refine lv_icmp_ne (tgt := 220) hx hb dX4_readsCommand_213 (by decide) (fun c173 => ?_) (fun c173 => ?_)
                        · have hf := kIfF c173 hf
                          refine lv_iconst (v := (0 : Int32)) hx hb dX4_readsCommand_220 (by decide) ?_
                          obtain ⟨v174, h175, hf⟩ := kBind hf
                          refine kgoA (krunV (wc := (wX4 cI a0 a1 a2 M SV MX ML t86.1 MH)) (As := [.int (v1.1 - (48 : Int32)), .int t86.2, .int (0 : Int32)]) (rest := []) (ci := 4) hx hb hml hown hts hK (kX4_aims l D cI a0 a1 a2 M SV MX ML t86.1 MH (v1.1 - (48 : Int32)) t86.2 (0 : Int32) v174 h175) gX4_readsCommand_X4_aims rfl rfl rfl hdX4_aims ⟨Nat.le_of_ble_eq_true rfl, Nat.le_of_ble_eq_true rfl⟩ hP hD rfl rfl rfl rfl hl.1 rfl (Nat.le_of_ble_eq_true rfl) dX4_readsCommand_221 ⟨Nat.zero_le _, Nat.zero_le _⟩) hD hS hA (fun H locs hP hD hS => ?_)
                          refine lv_istore (lv' := [(7, .int v174.1), (6, .int t86.2), (5, .int t86.1), (4, .int v165.1), (3, .int v9.1), (2, .int (v1.1 - (48 : Int32))), (0, .ref a0), (1, .int (bI x1))]) hx hb dX4_readsCommand_224 hl (by decide) rfl (fun ls hl => ?_)
                          refine lv_iconst (v := (1 : Int32)) hx hb dX4_readsCommand_226 (by decide) ?_
                          have he := Option.some.inj hf
                          have he := hO1 _ he.symm
                          subst he
                          exact kretz hx hb hr hlk hP hD hS dX4_readsCommand_227
                        · have hf := kIfT c173 hf
                          refine lv_iconst (v := (-1 : Int32)) hx hb dX4_readsCommand_216 (by decide) ?_
                          refine lv_goto (tgt := 221) hx hb dX4_readsCommand_217 (by decide) ?_
                          obtain ⟨v176, h177, hf⟩ := kBind hf
                          refine kgoA (krunV (wc := (wX4 cI a0 a1 a2 M SV MX ML t86.1 MH)) (As := [.int (v1.1 - (48 : Int32)), .int t86.2, .int (-1 : Int32)]) (rest := []) (ci := 4) hx hb hml hown hts hK (kX4_aims l D cI a0 a1 a2 M SV MX ML t86.1 MH (v1.1 - (48 : Int32)) t86.2 (-1 : Int32) v176 h177) gX4_readsCommand_X4_aims rfl rfl rfl hdX4_aims ⟨Nat.le_of_ble_eq_true rfl, Nat.le_of_ble_eq_true rfl⟩ hP hD rfl rfl rfl rfl hl.1 rfl (Nat.le_of_ble_eq_true rfl) dX4_readsCommand_221 ⟨Nat.zero_le _, Nat.zero_le _⟩) hD hS hA (fun H locs hP hD hS => ?_)
                          refine lv_istore (lv' := [(7, .int v176.1), (6, .int t86.2), (5, .int t86.1), (4, .int v165.1), (3, .int v9.1), (2, .int (v1.1 - (48 : Int32))), (0, .ref a0), (1, .int (bI x1))]) hx hb dX4_readsCommand_224 hl (by decide) rfl (fun ls hl => ?_)
                          refine lv_iconst (v := (1 : Int32)) hx hb dX4_readsCommand_226 (by decide) ?_
                          have he := Option.some.inj hf
                          have he := hO1 _ he.symm
                          subst he
                          exact kretz hx hb hr hlk hP hD hS dX4_readsCommand_227
                      · have hf := kIfT c172 hf
                        refine lv_iconst (v := (1 : Int32)) hx hb dX4_readsCommand_206 (by decide) ?_
                        refine lv_goto (tgt := 221) hx hb dX4_readsCommand_207 (by decide) ?_
                        obtain ⟨v178, h179, hf⟩ := kBind hf
                        refine kgoA (krunV (wc := (wX4 cI a0 a1 a2 M SV MX ML t86.1 MH)) (As := [.int (v1.1 - (48 : Int32)), .int t86.2, .int (1 : Int32)]) (rest := []) (ci := 4) hx hb hml hown hts hK (kX4_aims l D cI a0 a1 a2 M SV MX ML t86.1 MH (v1.1 - (48 : Int32)) t86.2 (1 : Int32) v178 h179) gX4_readsCommand_X4_aims rfl rfl rfl hdX4_aims ⟨Nat.le_of_ble_eq_true rfl, Nat.le_of_ble_eq_true rfl⟩ hP hD rfl rfl rfl rfl hl.1 rfl (Nat.le_of_ble_eq_true rfl) dX4_readsCommand_221 ⟨Nat.zero_le _, Nat.zero_le _⟩) hD hS hA (fun H locs hP hD hS => ?_)
                        refine lv_istore (lv' := [(7, .int v178.1), (6, .int t86.2), (5, .int t86.1), (4, .int v165.1), (3, .int v9.1), (2, .int (v1.1 - (48 : Int32))), (0, .ref a0), (1, .int (bI x1))]) hx hb dX4_readsCommand_224 hl (by decide) rfl (fun ls hl => ?_)
                        refine lv_iconst (v := (1 : Int32)) hx hb dX4_readsCommand_226 (by decide) ?_
                        have he := Option.some.inj hf
                        have he := hO1 _ he.symm
                        subst he
                        exact kretz hx hb hr hlk hP hD hS dX4_readsCommand_227
                  · have hf := kIfF c170 hf
                    refine lv_iconst (v := (0 : Int32)) hx hb dX4_readsCommand_184 (by decide) ?_
                    have he := Option.some.inj hf
                    have he := hO1 _ he.symm
                    subst he
                    exact kretz hx hb hr hlk hP hD hS dX4_readsCommand_185
            · have hf := kIfF c167 hf
              refine lv_iload hx hb dX4_readsCommand_91 (lv_at hl 1 rfl) ?_
              refine lv_aload_n hx hb dX4_readsCommand_93 rfl (lv_at hl 5 rfl) ?_
              refine va_get (D := D) (ci := 4) (v := .int ML) (C := RX4) (T := TX4) (N := 6) hx hb hts hinX4 hown hK.1 hP 0 rfl rfl 3 (by decide) hfl121 (fun _ h9 => h9) rfl dX4_readsCommand_94 ?_
              refine lv_icmp_ge (tgt := 157) hx hb dX4_readsCommand_97 (by decide) (fun c180 => ?_) (fun c180 => ?_)
              · have hf := kIfT c180 hf
                refine lv_iload hx hb dX4_readsCommand_157 (lv_at hl 1 rfl) ?_
                refine lv_aload_n hx hb dX4_readsCommand_159 rfl (lv_at hl 5 rfl) ?_
                refine va_get (D := D) (ci := 4) (v := .int v165.2) (C := RX4) (T := TX4) (N := 6) hx hb hts hinX4 hown hK.1 hP 0 rfl rfl 4 (by decide) hfl124 (fun _ h9 => h9) rfl dX4_readsCommand_160 ?_
                refine lv_icmp_eq (tgt := 184) hx hb dX4_readsCommand_163 (by decide) (fun c181 => ?_) (fun c181 => ?_)
                · have hf := kIfT c181 hf
                  refine lv_iconst (v := (0 : Int32)) hx hb dX4_readsCommand_184 (by decide) ?_
                  have he := Option.some.inj hf
                  have he := hO1 _ he.symm
                  subst he
                  exact kretz hx hb hr hlk hP hD hS dX4_readsCommand_185
                · have hf := kIfF c181 hf
                  refine lv_iload hx hb dX4_readsCommand_166 (lv_at hl 1 rfl) ?_
                  refine lv_aload_n hx hb dX4_readsCommand_168 rfl (lv_at hl 5 rfl) ?_
                  refine va_get (D := D) (ci := 4) (v := .int v165.2) (C := RX4) (T := TX4) (N := 6) hx hb hts hinX4 hown hK.1 hP 0 rfl rfl 4 (by decide) hfl124 (fun _ h9 => h9) rfl dX4_readsCommand_169 ?_
                  refine lv_isub hx hb dX4_readsCommand_172 ?_
                  refine lv_iconst (v := (2 : Int32)) hx hb dX4_readsCommand_173 (by decide) ?_
                  refine lv_icmp_gt (tgt := 184) hx hb dX4_readsCommand_174 (by decide) (fun c182 => ?_) (fun c182 => ?_)
                  · have hf := kIfT c182 hf
                    refine lv_iconst (v := (0 : Int32)) hx hb dX4_readsCommand_184 (by decide) ?_
                    have he := Option.some.inj hf
                    have he := hO1 _ he.symm
                    subst he
                    exact kretz hx hb hr hlk hP hD hS dX4_readsCommand_185
                  · have hf := kIfF c182 hf
                    refine lv_iload hx hb dX4_readsCommand_177 (lv_at hl 0 rfl) ?_
                    refine lv_bipush (v := (35 : Int32)) hx hb dX4_readsCommand_179 (by decide) ?_
                    refine lv_icmp_le (tgt := 186) hx hb dX4_readsCommand_181 (by decide) (fun c183 => ?_) (fun c183 => ?_)
                    · have hf := kIfT c183 hf
                      refine lv_aload_n hx hb dX4_readsCommand_186 rfl (lv_at hl 5 rfl) ?_
                      refine lv_iload hx hb dX4_readsCommand_187 (lv_at hl 1 rfl) ?_
                      refine va_put (D := D) (ci := 4) (v := .int t86.1) (ty := .int) (C := RX4) (T := TX4) (N := 6) hx hb hts hinX4 tyX4 tyX4_ok nmX4 hown hK.1 hP hD hS 0 rfl rfl 4 (by decide) hfl124 (fun _ h9 => h9) rfl (by decide +kernel) rfl rfl (Nat.le_of_ble_eq_true rfl) dX4_readsCommand_189 (fun H locs hP hD hS => ?_)
                      have hP : va_P D vwCl (wX4 cI a0 a1 a2 M SV MX ML t86.1 MH) H := hP
                      have hD : va_D A (wX4 cI a0 a1 a2 M SV MX ML t86.1 MH) := hD
                      refine lv_iload_n hx hb dX4_readsCommand_192 rfl (lv_at hl 6 rfl) ?_
                      refine kif_eqb (tgt := 226) hx hb dX4_readsCommand_193 (by decide) (fun c184 => ?_) (fun c184 => ?_)
                      · have hf := kIfF c184 hf
                        refine lv_iconst (v := (1 : Int32)) hx hb dX4_readsCommand_226 (by decide) ?_
                        have he := Option.some.inj hf
                        have he := hO1 _ he.symm
                        subst he
                        exact kretz hx hb hr hlk hP hD hS dX4_readsCommand_227
                      · have hf := kIfT c184 hf
                        refine lv_aload_n hx hb dX4_readsCommand_196 rfl (lv_at hl 5 rfl) ?_
                        refine lv_iload_n hx hb dX4_readsCommand_197 rfl (lv_at hl 4 rfl) ?_
                        refine lv_iload hx hb dX4_readsCommand_198 (lv_at hl 0 rfl) ?_
                        refine lv_iload_n hx hb dX4_readsCommand_200 rfl (lv_at hl 3 rfl) ?_
                        refine lv_bipush (v := (62 : Int32)) hx hb dX4_readsCommand_201 (by decide) ?_
                        refine lv_icmp_ne (tgt := 210) hx hb dX4_readsCommand_203 (by decide) (fun c185 => ?_) (fun c185 => ?_)
                        · have hf := kIfF c185 hf
                          refine lv_iload_n hx hb dX4_readsCommand_210 rfl (lv_at hl 3 rfl) ?_
                          refine lv_bipush (v := (60 : Int32)) hx hb dX4_readsCommand_211 (by decide) ?_
                          refine lv_icmp_ne (tgt := 220) hx hb dX4_readsCommand_213 (by decide) (fun c186 => ?_) (fun c186 => ?_)
                          · have hf := kIfF c186 hf
                            refine lv_iconst (v := (0 : Int32)) hx hb dX4_readsCommand_220 (by decide) ?_
                            obtain ⟨v187, h188, hf⟩ := kBind hf
                            refine kgoA (krunV (wc := (wX4 cI a0 a1 a2 M SV MX ML t86.1 MH)) (As := [.int (v1.1 - (48 : Int32)), .int t86.2, .int (0 : Int32)]) (rest := []) (ci := 4) hx hb hml hown hts hK (kX4_aims l D cI a0 a1 a2 M SV MX ML t86.1 MH (v1.1 - (48 : Int32)) t86.2 (0 : Int32) v187 h188) gX4_readsCommand_X4_aims rfl rfl rfl hdX4_aims ⟨Nat.le_of_ble_eq_true rfl, Nat.le_of_ble_eq_true rfl⟩ hP hD rfl rfl rfl rfl hl.1 rfl (Nat.le_of_ble_eq_true rfl) dX4_readsCommand_221 ⟨Nat.zero_le _, Nat.zero_le _⟩) hD hS hA (fun H locs hP hD hS => ?_)
                            refine lv_istore (lv' := [(7, .int v187.1), (6, .int t86.2), (5, .int t86.1), (4, .int v165.1), (3, .int v9.1), (2, .int (v1.1 - (48 : Int32))), (0, .ref a0), (1, .int (bI x1))]) hx hb dX4_readsCommand_224 hl (by decide) rfl (fun ls hl => ?_)
                            refine lv_iconst (v := (1 : Int32)) hx hb dX4_readsCommand_226 (by decide) ?_
                            have he := Option.some.inj hf
                            have he := hO1 _ he.symm
                            subst he
                            exact kretz hx hb hr hlk hP hD hS dX4_readsCommand_227
                          · have hf := kIfT c186 hf
                            refine lv_iconst (v := (-1 : Int32)) hx hb dX4_readsCommand_216 (by decide) ?_
                            refine lv_goto (tgt := 221) hx hb dX4_readsCommand_217 (by decide) ?_
                            obtain ⟨v189, h190, hf⟩ := kBind hf
                            refine kgoA (krunV (wc := (wX4 cI a0 a1 a2 M SV MX ML t86.1 MH)) (As := [.int (v1.1 - (48 : Int32)), .int t86.2, .int (-1 : Int32)]) (rest := []) (ci := 4) hx hb hml hown hts hK (kX4_aims l D cI a0 a1 a2 M SV MX ML t86.1 MH (v1.1 - (48 : Int32)) t86.2 (-1 : Int32) v189 h190) gX4_readsCommand_X4_aims rfl rfl rfl hdX4_aims ⟨Nat.le_of_ble_eq_true rfl, Nat.le_of_ble_eq_true rfl⟩ hP hD rfl rfl rfl rfl hl.1 rfl (Nat.le_of_ble_eq_true rfl) dX4_readsCommand_221 ⟨Nat.zero_le _, Nat.zero_le _⟩) hD hS hA (fun H locs hP hD hS => ?_)
                            refine lv_istore (lv' := [(7, .int v189.1), (6, .int t86.2), (5, .int t86.1), (4, .int v165.1), (3, .int v9.1), (2, .int (v1.1 - (48 : Int32))), (0, .ref a0), (1, .int (bI x1))]) hx hb dX4_readsCommand_224 hl (by decide) rfl (fun ls hl => ?_)
                            refine lv_iconst (v := (1 : Int32)) hx hb dX4_readsCommand_226 (by decide) ?_
                            have he := Option.some.inj hf
                            have he := hO1 _ he.symm
                            subst he
                            exact kretz hx hb hr hlk hP hD hS dX4_readsCommand_227
                        · have hf := kIfT c185 hf
                          refine lv_iconst (v := (1 : Int32)) hx hb dX4_readsCommand_206 (by decide) ?_
                          refine lv_goto (tgt := 221) hx hb dX4_readsCommand_207 (by decide) ?_
                          obtain ⟨v191, h192, hf⟩ := kBind hf
                          refine kgoA (krunV (wc := (wX4 cI a0 a1 a2 M SV MX ML t86.1 MH)) (As := [.int (v1.1 - (48 : Int32)), .int t86.2, .int (1 : Int32)]) (rest := []) (ci := 4) hx hb hml hown hts hK (kX4_aims l D cI a0 a1 a2 M SV MX ML t86.1 MH (v1.1 - (48 : Int32)) t86.2 (1 : Int32) v191 h192) gX4_readsCommand_X4_aims rfl rfl rfl hdX4_aims ⟨Nat.le_of_ble_eq_true rfl, Nat.le_of_ble_eq_true rfl⟩ hP hD rfl rfl rfl rfl hl.1 rfl (Nat.le_of_ble_eq_true rfl) dX4_readsCommand_221 ⟨Nat.zero_le _, Nat.zero_le _⟩) hD hS hA (fun H locs hP hD hS => ?_)
                          refine lv_istore (lv' := [(7, .int v191.1), (6, .int t86.2), (5, .int t86.1), (4, .int v165.1), (3, .int v9.1), (2, .int (v1.1 - (48 : Int32))), (0, .ref a0), (1, .int (bI x1))]) hx hb dX4_readsCommand_224 hl (by decide) rfl (fun ls hl => ?_)
                          refine lv_iconst (v := (1 : Int32)) hx hb dX4_readsCommand_226 (by decide) ?_
                          have he := Option.some.inj hf
                          have he := hO1 _ he.symm
                          subst he
                          exact kretz hx hb hr hlk hP hD hS dX4_readsCommand_227
                    · have hf := kIfF c183 hf
                      refine lv_iconst (v := (0 : Int32)) hx hb dX4_readsCommand_184 (by decide) ?_
                      have he := Option.some.inj hf
                      have he := hO1 _ he.symm
                      subst he
                      exact kretz hx hb hr hlk hP hD hS dX4_readsCommand_185
              · have hf := kIfF c180 hf
                refine lv_aload_n hx hb dX4_readsCommand_100 rfl (lv_at hl 5 rfl) ?_
                refine va_get (D := D) (ci := 4) (v := .ref a2) (C := RX4) (T := TX4) (N := 6) hx hb hts hinX4 hown hK.1 hP 0 rfl rfl 2 (by decide) hfl13 (fun _ h9 => h9) rfl dX4_readsCommand_101 ?_
                refine lv_iload hx hb dX4_readsCommand_104 (lv_at hl 1 rfl) ?_
                obtain ⟨v193, h194, hf⟩ := kBind hf
                refine krd hx hb hK hP 2 rfl h194 dX4_readsCommand_106 ?_
                refine lv_bipush (v := (48 : Int32)) hx hb dX4_readsCommand_107 (by decide) ?_
                refine lv_bipush (v := (57 : Int32)) hx hb dX4_readsCommand_109 (by decide) ?_
                obtain ⟨v195, h196, hf⟩ := kBind hf
                refine kgoR (krunS (wc := ([] : va_W)) (As := [.int v193, .int (48 : Int32), .int (57 : Int32)]) (rest := []) hx hb hml hown hts hK (kX4_in l D cI v193 (48 : Int32) (57 : Int32) v195 h196) gX4_readsCommand_X4_in rfl rfl rfl hdX4_in ⟨Nat.le_of_ble_eq_true rfl, Nat.le_of_ble_eq_true rfl⟩ k_P0 (k_D0 A) rfl hl.1 rfl (Nat.le_of_ble_eq_true rfl) dX4_readsCommand_111 ⟨Nat.zero_le _, Nat.zero_le _⟩) hP hD hS hA [] rfl (fun H locs hP hS => ?_)
                refine kif_eqb (tgt := 157) hx hb dX4_readsCommand_114 (by decide) (fun c197 => ?_) (fun c197 => ?_)
                · have hf := kIfF c197 hf
                  refine lv_iload hx hb dX4_readsCommand_157 (lv_at hl 1 rfl) ?_
                  refine lv_aload_n hx hb dX4_readsCommand_159 rfl (lv_at hl 5 rfl) ?_
                  refine va_get (D := D) (ci := 4) (v := .int v165.2) (C := RX4) (T := TX4) (N := 6) hx hb hts hinX4 hown hK.1 hP 0 rfl rfl 4 (by decide) hfl124 (fun _ h9 => h9) rfl dX4_readsCommand_160 ?_
                  refine lv_icmp_eq (tgt := 184) hx hb dX4_readsCommand_163 (by decide) (fun c198 => ?_) (fun c198 => ?_)
                  · have hf := kIfT c198 hf
                    refine lv_iconst (v := (0 : Int32)) hx hb dX4_readsCommand_184 (by decide) ?_
                    have he := Option.some.inj hf
                    have he := hO1 _ he.symm
                    subst he
                    exact kretz hx hb hr hlk hP hD hS dX4_readsCommand_185
                  · have hf := kIfF c198 hf
                    refine lv_iload hx hb dX4_readsCommand_166 (lv_at hl 1 rfl) ?_
                    refine lv_aload_n hx hb dX4_readsCommand_168 rfl (lv_at hl 5 rfl) ?_
                    refine va_get (D := D) (ci := 4) (v := .int v165.2) (C := RX4) (T := TX4) (N := 6) hx hb hts hinX4 hown hK.1 hP 0 rfl rfl 4 (by decide) hfl124 (fun _ h9 => h9) rfl dX4_readsCommand_169 ?_
                    refine lv_isub hx hb dX4_readsCommand_172 ?_
                    refine lv_iconst (v := (2 : Int32)) hx hb dX4_readsCommand_173 (by decide) ?_
                    refine lv_icmp_gt (tgt := 184) hx hb dX4_readsCommand_174 (by decide) (fun c199 => ?_) (fun c199 => ?_)
                    · have hf := kIfT c199 hf
                      refine lv_iconst (v := (0 : Int32)) hx hb dX4_readsCommand_184 (by decide) ?_
                      have he := Option.some.inj hf
                      have he := hO1 _ he.symm
                      subst he
                      exact kretz hx hb hr hlk hP hD hS dX4_readsCommand_185
                    · have hf := kIfF c199 hf
                      refine lv_iload hx hb dX4_readsCommand_177 (lv_at hl 0 rfl) ?_
                      refine lv_bipush (v := (35 : Int32)) hx hb dX4_readsCommand_179 (by decide) ?_
                      refine lv_icmp_le (tgt := 186) hx hb dX4_readsCommand_181 (by decide) (fun c200 => ?_) (fun c200 => ?_)
                      · have hf := kIfT c200 hf
                        refine lv_aload_n hx hb dX4_readsCommand_186 rfl (lv_at hl 5 rfl) ?_
                        refine lv_iload hx hb dX4_readsCommand_187 (lv_at hl 1 rfl) ?_
                        refine va_put (D := D) (ci := 4) (v := .int t86.1) (ty := .int) (C := RX4) (T := TX4) (N := 6) hx hb hts hinX4 tyX4 tyX4_ok nmX4 hown hK.1 hP hD hS 0 rfl rfl 4 (by decide) hfl124 (fun _ h9 => h9) rfl (by decide +kernel) rfl rfl (Nat.le_of_ble_eq_true rfl) dX4_readsCommand_189 (fun H locs hP hD hS => ?_)
                        have hP : va_P D vwCl (wX4 cI a0 a1 a2 M SV MX ML t86.1 MH) H := hP
                        have hD : va_D A (wX4 cI a0 a1 a2 M SV MX ML t86.1 MH) := hD
                        refine lv_iload_n hx hb dX4_readsCommand_192 rfl (lv_at hl 6 rfl) ?_
                        refine kif_eqb (tgt := 226) hx hb dX4_readsCommand_193 (by decide) (fun c201 => ?_) (fun c201 => ?_)
                        · have hf := kIfF c201 hf
                          refine lv_iconst (v := (1 : Int32)) hx hb dX4_readsCommand_226 (by decide) ?_
                          have he := Option.some.inj hf
                          have he := hO1 _ he.symm
                          subst he
                          exact kretz hx hb hr hlk hP hD hS dX4_readsCommand_227
                        · have hf := kIfT c201 hf
                          refine lv_aload_n hx hb dX4_readsCommand_196 rfl (lv_at hl 5 rfl) ?_
                          refine lv_iload_n hx hb dX4_readsCommand_197 rfl (lv_at hl 4 rfl) ?_
                          refine lv_iload hx hb dX4_readsCommand_198 (lv_at hl 0 rfl) ?_
                          refine lv_iload_n hx hb dX4_readsCommand_200 rfl (lv_at hl 3 rfl) ?_
                          refine lv_bipush (v := (62 : Int32)) hx hb dX4_readsCommand_201 (by decide) ?_
                          refine lv_icmp_ne (tgt := 210) hx hb dX4_readsCommand_203 (by decide) (fun c202 => ?_) (fun c202 => ?_)
                          · have hf := kIfF c202 hf
                            refine lv_iload_n hx hb dX4_readsCommand_210 rfl (lv_at hl 3 rfl) ?_
                            refine lv_bipush (v := (60 : Int32)) hx hb dX4_readsCommand_211 (by decide) ?_
                            refine lv_icmp_ne (tgt := 220) hx hb dX4_readsCommand_213 (by decide) (fun c203 => ?_) (fun c203 => ?_)
                            · have hf := kIfF c203 hf
                              refine lv_iconst (v := (0 : Int32)) hx hb dX4_readsCommand_220 (by decide) ?_
                              obtain ⟨v204, h205, hf⟩ := kBind hf
                              refine kgoA (krunV (wc := (wX4 cI a0 a1 a2 M SV MX ML t86.1 MH)) (As := [.int (v1.1 - (48 : Int32)), .int t86.2, .int (0 : Int32)]) (rest := []) (ci := 4) hx hb hml hown hts hK (kX4_aims l D cI a0 a1 a2 M SV MX ML t86.1 MH (v1.1 - (48 : Int32)) t86.2 (0 : Int32) v204 h205) gX4_readsCommand_X4_aims rfl rfl rfl hdX4_aims ⟨Nat.le_of_ble_eq_true rfl, Nat.le_of_ble_eq_true rfl⟩ hP hD rfl rfl rfl rfl hl.1 rfl (Nat.le_of_ble_eq_true rfl) dX4_readsCommand_221 ⟨Nat.zero_le _, Nat.zero_le _⟩) hD hS hA (fun H locs hP hD hS => ?_)
                              refine lv_istore (lv' := [(7, .int v204.1), (6, .int t86.2), (5, .int t86.1), (4, .int v165.1), (3, .int v9.1), (2, .int (v1.1 - (48 : Int32))), (0, .ref a0), (1, .int (bI x1))]) hx hb dX4_readsCommand_224 hl (by decide) rfl (fun ls hl => ?_)
                              refine lv_iconst (v := (1 : Int32)) hx hb dX4_readsCommand_226 (by decide) ?_
                              have he := Option.some.inj hf
                              have he := hO1 _ he.symm
                              subst he
                              exact kretz hx hb hr hlk hP hD hS dX4_readsCommand_227
                            · have hf := kIfT c203 hf
                              refine lv_iconst (v := (-1 : Int32)) hx hb dX4_readsCommand_216 (by decide) ?_
                              refine lv_goto (tgt := 221) hx hb dX4_readsCommand_217 (by decide) ?_
                              obtain ⟨v206, h207, hf⟩ := kBind hf
                              refine kgoA (krunV (wc := (wX4 cI a0 a1 a2 M SV MX ML t86.1 MH)) (As := [.int (v1.1 - (48 : Int32)), .int t86.2, .int (-1 : Int32)]) (rest := []) (ci := 4) hx hb hml hown hts hK (kX4_aims l D cI a0 a1 a2 M SV MX ML t86.1 MH (v1.1 - (48 : Int32)) t86.2 (-1 : Int32) v206 h207) gX4_readsCommand_X4_aims rfl rfl rfl hdX4_aims ⟨Nat.le_of_ble_eq_true rfl, Nat.le_of_ble_eq_true rfl⟩ hP hD rfl rfl rfl rfl hl.1 rfl (Nat.le_of_ble_eq_true rfl) dX4_readsCommand_221 ⟨Nat.zero_le _, Nat.zero_le _⟩) hD hS hA (fun H locs hP hD hS => ?_)
                              refine lv_istore (lv' := [(7, .int v206.1), (6, .int t86.2), (5, .int t86.1), (4, .int v165.1), (3, .int v9.1), (2, .int (v1.1 - (48 : Int32))), (0, .ref a0), (1, .int (bI x1))]) hx hb dX4_readsCommand_224 hl (by decide) rfl (fun ls hl => ?_)
                              refine lv_iconst (v := (1 : Int32)) hx hb dX4_readsCommand_226 (by decide) ?_
                              have he := Option.some.inj hf
                              have he := hO1 _ he.symm
                              subst he
                              exact kretz hx hb hr hlk hP hD hS dX4_readsCommand_227
                          · have hf := kIfT c202 hf
                            refine lv_iconst (v := (1 : Int32)) hx hb dX4_readsCommand_206 (by decide) ?_
                            refine lv_goto (tgt := 221) hx hb dX4_readsCommand_207 (by decide) ?_
                            obtain ⟨v208, h209, hf⟩ := kBind hf
                            refine kgoA (krunV (wc := (wX4 cI a0 a1 a2 M SV MX ML t86.1 MH)) (As := [.int (v1.1 - (48 : Int32)), .int t86.2, .int (1 : Int32)]) (rest := []) (ci := 4) hx hb hml hown hts hK (kX4_aims l D cI a0 a1 a2 M SV MX ML t86.1 MH (v1.1 - (48 : Int32)) t86.2 (1 : Int32) v208 h209) gX4_readsCommand_X4_aims rfl rfl rfl hdX4_aims ⟨Nat.le_of_ble_eq_true rfl, Nat.le_of_ble_eq_true rfl⟩ hP hD rfl rfl rfl rfl hl.1 rfl (Nat.le_of_ble_eq_true rfl) dX4_readsCommand_221 ⟨Nat.zero_le _, Nat.zero_le _⟩) hD hS hA (fun H locs hP hD hS => ?_)
                            refine lv_istore (lv' := [(7, .int v208.1), (6, .int t86.2), (5, .int t86.1), (4, .int v165.1), (3, .int v9.1), (2, .int (v1.1 - (48 : Int32))), (0, .ref a0), (1, .int (bI x1))]) hx hb dX4_readsCommand_224 hl (by decide) rfl (fun ls hl => ?_)
                            refine lv_iconst (v := (1 : Int32)) hx hb dX4_readsCommand_226 (by decide) ?_
                            have he := Option.some.inj hf
                            have he := hO1 _ he.symm
                            subst he
                            exact kretz hx hb hr hlk hP hD hS dX4_readsCommand_227
                      · have hf := kIfF c200 hf
                        refine lv_iconst (v := (0 : Int32)) hx hb dX4_readsCommand_184 (by decide) ?_
                        have he := Option.some.inj hf
                        have he := hO1 _ he.symm
                        subst he
                        exact kretz hx hb hr hlk hP hD hS dX4_readsCommand_185
                · have hf := kIfT c197 hf
                  refine lv_iload hx hb dX4_readsCommand_117 (lv_at hl 1 rfl) ?_
                  refine lv_aload_n hx hb dX4_readsCommand_119 rfl (lv_at hl 5 rfl) ?_
                  refine va_get (D := D) (ci := 4) (v := .int v165.2) (C := RX4) (T := TX4) (N := 6) hx hb hts hinX4 hown hK.1 hP 0 rfl rfl 4 (by decide) hfl124 (fun _ h9 => h9) rfl dX4_readsCommand_120 ?_
                  refine lv_isub hx hb dX4_readsCommand_123 ?_
                  refine lv_iconst (v := (3 : Int32)) hx hb dX4_readsCommand_124 (by decide) ?_
                  refine lv_icmp_ge (tgt := 147) hx hb dX4_readsCommand_125 (by decide) (fun c210 => ?_) (fun c210 => ?_)
                  · have hf := kIfT c210 hf
                    refine lv_iload hx hb dX4_readsCommand_147 (lv_at hl 0 rfl) ?_
                    refine lv_istore (lv' := [(6, .int t86.2), (5, .int t86.1), (4, .int v165.1), (3, .int v9.1), (2, .int (v1.1 - (48 : Int32))), (0, .ref a0), (1, .int (bI x1))]) hx hb dX4_readsCommand_149 hl (by decide) rfl (fun ls hl => ?_)
                    refine lv_iinc (v := t86.1 + (1 : Int32)) (lv' := [(5, .int (t86.1 + (1 : Int32))), (6, .int t86.2), (4, .int v165.1), (3, .int v9.1), (2, .int (v1.1 - (48 : Int32))), (0, .ref a0), (1, .int (bI x1))]) hx hb dX4_readsCommand_151 hl (k := 1) rfl rfl (by decide) rfl (fun ls hl => ?_)
                    refine lv_goto (tgt := 86) hx hb dX4_readsCommand_154 (by decide) ?_
                    obtain ⟨z211, hz211⟩ : ∃ z : Int32, z = t86.1 + (1 : Int32) := ⟨_, rfl⟩
                    rw [← hz211] at hf
                    have he := (Option.some.inj hf).symm
                    have hl : lv_has ls 8 [(6, .int t86.2), (5, .int z211), (4, .int v165.1), (3, .int v9.1), (2, .int (v1.1 - (48 : Int32))), (0, .ref a0), (1, .int (bI x1))] := by rw [hz211]; exact lv_sub hl [1, 0, 2, 3, 4, 5, 6] rfl
                    exact hI1 _ he H locs ls hP hD hS hl
                  · have hf := kIfF c210 hf
                    refine lv_bipush (v := (10 : Int32)) hx hb dX4_readsCommand_128 (by decide) ?_
                    refine lv_iload hx hb dX4_readsCommand_130 (lv_at hl 0 rfl) ?_
                    refine lv_imul hx hb dX4_readsCommand_132 ?_
                    refine lv_aload_n hx hb dX4_readsCommand_133 rfl (lv_at hl 5 rfl) ?_
                    refine va_get (D := D) (ci := 4) (v := .ref a2) (C := RX4) (T := TX4) (N := 6) hx hb hts hinX4 hown hK.1 hP 0 rfl rfl 2 (by decide) hfl13 (fun _ h9 => h9) rfl dX4_readsCommand_134 ?_
                    refine lv_iload hx hb dX4_readsCommand_137 (lv_at hl 1 rfl) ?_
                    obtain ⟨v212, h213, hf⟩ := kBind hf
                    refine krd hx hb hK hP 2 rfl h213 dX4_readsCommand_139 ?_
                    refine lv_iadd hx hb dX4_readsCommand_140 ?_
                    refine lv_bipush (v := (48 : Int32)) hx hb dX4_readsCommand_141 (by decide) ?_
                    refine lv_isub hx hb dX4_readsCommand_143 ?_
                    refine lv_goto (tgt := 149) hx hb dX4_readsCommand_144 (by decide) ?_
                    refine lv_istore (lv' := [(6, .int ((((10 : Int32) * t86.2) + v212) - (48 : Int32))), (5, .int t86.1), (4, .int v165.1), (3, .int v9.1), (2, .int (v1.1 - (48 : Int32))), (0, .ref a0), (1, .int (bI x1))]) hx hb dX4_readsCommand_149 hl (by decide) rfl (fun ls hl => ?_)
                    refine lv_iinc (v := t86.1 + (1 : Int32)) (lv' := [(5, .int (t86.1 + (1 : Int32))), (6, .int ((((10 : Int32) * t86.2) + v212) - (48 : Int32))), (4, .int v165.1), (3, .int v9.1), (2, .int (v1.1 - (48 : Int32))), (0, .ref a0), (1, .int (bI x1))]) hx hb dX4_readsCommand_151 hl (k := 1) rfl rfl (by decide) rfl (fun ls hl => ?_)
                    refine lv_goto (tgt := 86) hx hb dX4_readsCommand_154 (by decide) ?_
                    obtain ⟨z214, hz214⟩ : ∃ z : Int32, z = (((10 : Int32) * t86.2) + v212) - (48 : Int32) := ⟨_, rfl⟩
                    rw [← hz214] at hf
                    obtain ⟨z215, hz215⟩ : ∃ z : Int32, z = t86.1 + (1 : Int32) := ⟨_, rfl⟩
                    rw [← hz215] at hf
                    have he := (Option.some.inj hf).symm
                    have hl : lv_has ls 8 [(6, .int z214), (5, .int z215), (4, .int v165.1), (3, .int v9.1), (2, .int (v1.1 - (48 : Int32))), (0, .ref a0), (1, .int (bI x1))] := by rw [hz214, hz215]; exact lv_sub hl [1, 0, 2, 3, 4, 5, 6] rfl
                    exact hI1 _ he H locs ls hP hD hS hl
          · have hf := kIfF c164 hf
            refine lv_iconst (v := (0 : Int32)) hx hb dX4_readsCommand_59 (by decide) ?_
            have he := Option.some.inj hf
            subst he
            exact kretz hx hb hr hlk hP hD hS dX4_readsCommand_60
    · have hf := kIfT c8 hf
      refine lv_iconst (v := (0 : Int32)) hx hb dX4_readsCommand_24 (by decide) ?_
      have he := Option.some.inj hf
      subst he
      exact kretz hx hb hr hlk hP hD hS dX4_readsCommand_25
