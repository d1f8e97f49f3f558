set_option maxHeartbeats 4000000 in
set_option maxRecDepth 100000 in
theorem kX1_hash (l : Launch) (D : va_G) (cI : ClassId) (fu : Nat) (a0 a1 : Nat) (R : (Nat → Int32)) (o : Int64) (hf : fX1_hash fu R = some o) : Ct l yX1_hash wsX1_hash { frames := 4, cells := 0, slots := 0, locals := 97 } D cI [.ref a0] (wX1 cI a0 a1 R) (wX1 cI a0 a1 R) (some (.long o)) := by
  refine Ct.of (cc := cX1_hash) (maxL := 4) (ret := (some .long)) (by decide) rfl (Nat.le_of_ble_eq_true rfl) ?_
  intro p e s m args below meth c A F hP hD hS ls hl
  obtain ⟨hx, hb, hml, hr, hown, hts, hlk, hK, hA⟩ := F
  have hown : s.vm.findClass RX1 = some m.cls := hown
  have hl : lv_has ls 4 [(0, .ref a0)] := hl
  have hinX1 : ∀ w ∈ wsX10, w ∈ wsX1_hash := by decide +kernel
  have hfl11 := hts (.fieldLink RX1 11 "CraneGuard$Site" "row" "[I") (by decide +kernel)
  unfold fX1_hash at hf
  refine lv_ldc2 (v := (17 : Int64)) hx hb hown (hts (.constantLong RX1 87 (17)) (by decide +kernel)) dX1_hash_0 ?_
  refine lv_lstore_n (lv' := [(1, .long (17 : Int64)), (0, .ref a0)]) hx hb dX1_hash_3 rfl hl (by decide) rfl (fun ls hl => ?_)
  refine lv_ldc2 (v := (31 : Int64)) hx hb hown (hts (.constantLong RX1 89 (31)) (by decide +kernel)) dX1_hash_4 ?_
  refine lv_lload_n hx hb dX1_hash_7 rfl (lv_at hl 0 rfl) ?_
  refine lv_lmul hx hb dX1_hash_8 ?_
  refine lv_aload_n hx hb dX1_hash_9 rfl (lv_at hl 1 rfl) ?_
  refine va_get (D := D) (ci := 1) (v := .ref a1) (C := RX1) (T := TX1) (N := 1) hx hb hts hinX1 hown hK.1 hP 0 rfl rfl 0 (by decide) hfl11 (fun _ h9 => h9) rfl dX1_hash_10 ?_
  refine lv_iconst (v := (0 : Int32)) hx hb dX1_hash_13 (by decide) ?_
  obtain ⟨v1, h2, hf⟩ := kBind hf
  refine krd hx hb hK hP 1 rfl h2 dX1_hash_14 ?_
  refine lv_i2l hx hb dX1_hash_15 rfl ?_
  refine lv_ladd hx hb dX1_hash_16 ?_
  refine lv_lstore_n (lv' := [(1, .long (((31 : Int64) * (17 : Int64)) + (Int32.toInt64 v1))), (0, .ref a0)]) hx hb dX1_hash_17 rfl hl (by decide) rfl (fun ls hl => ?_)
  refine lv_ldc2 (v := (31 : Int64)) hx hb hown (hts (.constantLong RX1 89 (31)) (by decide +kernel)) dX1_hash_18 ?_
  refine lv_lload_n hx hb dX1_hash_21 rfl (lv_at hl 0 rfl) ?_
  refine lv_lmul hx hb dX1_hash_22 ?_
  refine lv_aload_n hx hb dX1_hash_23 rfl (lv_at hl 1 rfl) ?_
  refine va_get (D := D) (ci := 1) (v := .ref a1) (C := RX1) (T := TX1) (N := 1) hx hb hts hinX1 hown hK.1 hP 0 rfl rfl 0 (by decide) hfl11 (fun _ h9 => h9) rfl dX1_hash_24 ?_
  refine lv_iconst (v := (1 : Int32)) hx hb dX1_hash_27 (by decide) ?_
  obtain ⟨v3, h4, hf⟩ := kBind hf
  refine krd hx hb hK hP 1 rfl h4 dX1_hash_28 ?_
  refine lv_i2l hx hb dX1_hash_29 rfl ?_
  refine lv_ladd hx hb dX1_hash_30 ?_
  refine lv_lstore_n (lv' := [(1, .long (((31 : Int64) * (((31 : Int64) * (17 : Int64)) + (Int32.toInt64 v1))) + (Int32.toInt64 v3))), (0, .ref a0)]) hx hb dX1_hash_31 rfl hl (by decide) rfl (fun ls hl => ?_)
  refine lv_ldc2 (v := (31 : Int64)) hx hb hown (hts (.constantLong RX1 89 (31)) (by decide +kernel)) dX1_hash_32 ?_
  refine lv_lload_n hx hb dX1_hash_35 rfl (lv_at hl 0 rfl) ?_
  refine lv_lmul hx hb dX1_hash_36 ?_
  refine lv_aload_n hx hb dX1_hash_37 rfl (lv_at hl 1 rfl) ?_
  refine va_get (D := D) (ci := 1) (v := .ref a1) (C := RX1) (T := TX1) (N := 1) hx hb hts hinX1 hown hK.1 hP 0 rfl rfl 0 (by decide) hfl11 (fun _ h9 => h9) rfl dX1_hash_38 ?_
  refine lv_iconst (v := (2 : Int32)) hx hb dX1_hash_41 (by decide) ?_
  obtain ⟨v5, h6, hf⟩ := kBind hf
  refine krd hx hb hK hP 1 rfl h6 dX1_hash_42 ?_
  refine lv_i2l hx hb dX1_hash_43 rfl ?_
  refine lv_ladd hx hb dX1_hash_44 ?_
  refine lv_lstore_n (lv' := [(1, .long (((31 : Int64) * (((31 : Int64) * (((31 : Int64) * (17 : Int64)) + (Int32.toInt64 v1))) + (Int32.toInt64 v3))) + (Int32.toInt64 v5))), (0, .ref a0)]) hx hb dX1_hash_45 rfl hl (by decide) rfl (fun ls hl => ?_)
  refine lv_iconst (v := (0 : Int32)) hx hb dX1_hash_46 (by decide) ?_
  refine lv_istore_n (lv' := [(3, .int (0 : Int32)), (1, .long (((31 : Int64) * (((31 : Int64) * (((31 : Int64) * (17 : Int64)) + (Int32.toInt64 v1))) + (Int32.toInt64 v3))) + (Int32.toInt64 v5))), (0, .ref a0)]) hx hb dX1_hash_47 rfl hl (by decide) rfl (fun ls hl => ?_)
  obtain ⟨z30, hz30⟩ : ∃ z : Int64, z = ((31 : Int64) * (((31 : Int64) * (((31 : Int64) * (17 : Int64)) + (Int32.toInt64 v1))) + (Int32.toInt64 v3))) + (Int32.toInt64 v5) := ⟨_, rfl⟩
  rw [← hz30] at hf
  have hl : lv_has ls 4 [(3, .int (0 : Int32)), (1, .long z30), (0, .ref a0)] := by rw [hz30]; exact hl
  refine klp hf (fun t48 : Int64 × Int32 => (wX1 cI a0 a1 R)) 4 (fun t48 : Int64 × Int32 => [(3, .int t48.2), (1, .long t48.1), (0, .ref a0)]) ?_ hP hD hS hl
  intro t48 x48_ hf hI1 hO1 H locs ls hP hD hS hl
  unfold fX1_hash_L48 at hf
  have hP : va_P D vwCl (wX1 cI a0 a1 R) H := hP
  have hD : va_D A (wX1 cI a0 a1 R) := hD
  have hl : lv_has ls 4 [(3, .int t48.2), (1, .long t48.1), (0, .ref a0)] := hl
  refine lv_iload_n hx hb dX1_hash_48 rfl (lv_at hl 0 rfl) ?_
  refine lv_aload_n hx hb dX1_hash_49 rfl (lv_at hl 2 rfl) ?_
  refine va_get (D := D) (ci := 1) (v := .ref a1) (C := RX1) (T := TX1) (N := 1) hx hb hts hinX1 hown hK.1 hP 0 rfl rfl 0 (by decide) hfl11 (fun _ h9 => h9) rfl dX1_hash_50 ?_
  refine lv_iconst (v := (2 : Int32)) hx hb dX1_hash_53 (by decide) ?_
  obtain ⟨v31, h32, hf⟩ := kBind hf
  refine krd hx hb hK hP 1 rfl h32 dX1_hash_54 ?_
  refine lv_icmp_ge (tgt := 71) hx hb dX1_hash_55 (by decide) (fun c33 => ?_) (fun c33 => ?_)
  · have hf := kIfT c33 hf
    refine lv_ldc2 (v := (31 : Int64)) hx hb hown (hts (.constantLong RX1 89 (31)) (by decide +kernel)) dX1_hash_71 ?_
    refine lv_lload_n hx hb dX1_hash_74 rfl (lv_at hl 1 rfl) ?_
    refine lv_lmul hx hb dX1_hash_75 ?_
    refine lv_aload_n hx hb dX1_hash_76 rfl (lv_at hl 2 rfl) ?_
    refine va_get (D := D) (ci := 1) (v := .ref a1) (C := RX1) (T := TX1) (N := 1) hx hb hts hinX1 hown hK.1 hP 0 rfl rfl 0 (by decide) hfl11 (fun _ h9 => h9) rfl dX1_hash_77 ?_
    refine lv_iconst (v := (3 : Int32)) hx hb dX1_hash_80 (by decide) ?_
    obtain ⟨v34, h35, hf⟩ := kBind hf
    refine krd hx hb hK hP 1 rfl h35 dX1_hash_81 ?_
    refine lv_i2l hx hb dX1_hash_82 rfl ?_
    refine lv_ladd hx hb dX1_hash_83 ?_
    refine lv_lstore_n (lv' := [(1, .long (((31 : Int64) * t48.1) + (Int32.toInt64 v34))), (3, .int t48.2), (0, .ref a0)]) hx hb dX1_hash_84 rfl hl (by decide) rfl (fun ls hl => ?_)
    refine lv_bipush (v := (92 : Int32)) hx hb dX1_hash_85 (by decide) ?_
    refine lv_istore_n (lv' := [(3, .int (92 : Int32)), (1, .long (((31 : Int64) * t48.1) + (Int32.toInt64 v34))), (0, .ref a0)]) hx hb dX1_hash_87 rfl hl (by decide) rfl (fun ls hl => ?_)
    obtain ⟨z36, hz36⟩ : ∃ z : Int64, z = ((31 : Int64) * t48.1) + (Int32.toInt64 v34) := ⟨_, rfl⟩
    rw [← hz36] at hf
    have hl : lv_has ls 4 [(3, .int (92 : Int32)), (1, .long z36), (0, .ref a0)] := by rw [hz36]; exact hl
    refine klp hf (fun t88 : Int64 × Int32 => (wX1 cI a0 a1 R)) 4 (fun t88 : Int64 × Int32 => [(3, .int t88.2), (1, .long t88.1), (0, .ref a0)]) ?_ hP hD hS hl
    intro t88 x88_ hf hI2 hO2 H locs ls hP hD hS hl
    unfold fX1_hash_L88 at hf
    have hP : va_P D vwCl (wX1 cI a0 a1 R) H := hP
    have hD : va_D A (wX1 cI a0 a1 R) := hD
    have hl : lv_has ls 4 [(3, .int t88.2), (1, .long t88.1), (0, .ref a0)] := hl
    refine lv_iload_n hx hb dX1_hash_88 rfl (lv_at hl 0 rfl) ?_
    refine lv_bipush (v := (92 : Int32)) hx hb dX1_hash_89 (by decide) ?_
    refine lv_aload_n hx hb dX1_hash_91 rfl (lv_at hl 2 rfl) ?_
    refine va_get (D := D) (ci := 1) (v := .ref a1) (C := RX1) (T := TX1) (N := 1) hx hb hts hinX1 hown hK.1 hP 0 rfl rfl 0 (by decide) hfl11 (fun _ h9 => h9) rfl dX1_hash_92 ?_
    refine lv_iconst (v := (3 : Int32)) hx hb dX1_hash_95 (by decide) ?_
    obtain ⟨v37, h38, hf⟩ := kBind hf
    refine krd hx hb hK hP 1 rfl h38 dX1_hash_96 ?_
    refine lv_iconst (v := (4 : Int32)) hx hb dX1_hash_97 (by decide) ?_
    refine lv_imul hx hb dX1_hash_98 ?_
    refine lv_iadd hx hb dX1_hash_99 ?_
    refine lv_icmp_ge (tgt := 123) hx hb dX1_hash_100 (by decide) (fun c39 => ?_) (fun c39 => ?_)
    · have hf := kIfT c39 hf
      refine lv_lload_n hx hb dX1_hash_123 rfl (lv_at hl 1 rfl) ?_
      have he := Option.some.inj hf
      have he := hO2 _ he.symm
      have he := hO1 _ he.symm
      subst he
      exact kretl hx hb hr hlk hP hD hS dX1_hash_124
    · have hf := kIfF c39 hf
      refine lv_ldc2 (v := (31 : Int64)) hx hb hown (hts (.constantLong RX1 89 (31)) (by decide +kernel)) dX1_hash_103 ?_
      refine lv_lload_n hx hb dX1_hash_106 rfl (lv_at hl 1 rfl) ?_
      refine lv_lmul hx hb dX1_hash_107 ?_
      refine lv_aload_n hx hb dX1_hash_108 rfl (lv_at hl 2 rfl) ?_
      refine va_get (D := D) (ci := 1) (v := .ref a1) (C := RX1) (T := TX1) (N := 1) hx hb hts hinX1 hown hK.1 hP 0 rfl rfl 0 (by decide) hfl11 (fun _ h9 => h9) rfl dX1_hash_109 ?_
      refine lv_iload_n hx hb dX1_hash_112 rfl (lv_at hl 0 rfl) ?_
      obtain ⟨v40, h41, hf⟩ := kBind hf
      refine krd hx hb hK hP 1 rfl h41 dX1_hash_113 ?_
      refine lv_i2l hx hb dX1_hash_114 rfl ?_
      refine lv_ladd hx hb dX1_hash_115 ?_
      refine lv_lstore_n (lv' := [(1, .long (((31 : Int64) * t88.1) + (Int32.toInt64 v40))), (3, .int t88.2), (0, .ref a0)]) hx hb dX1_hash_116 rfl hl (by decide) rfl (fun ls hl => ?_)
      refine lv_iinc (v := t88.2 + (1 : Int32)) (lv' := [(3, .int (t88.2 + (1 : Int32))), (1, .long (((31 : Int64) * t88.1) + (Int32.toInt64 v40))), (0, .ref a0)]) hx hb dX1_hash_117 hl (k := 1) rfl rfl (by decide) rfl (fun ls hl => ?_)
      refine lv_goto (tgt := 88) hx hb dX1_hash_120 (by decide) ?_
      obtain ⟨z42, hz42⟩ : ∃ z : Int64, z = ((31 : Int64) * t88.1) + (Int32.toInt64 v40) := ⟨_, rfl⟩
      rw [← hz42] at hf
      obtain ⟨z43, hz43⟩ : ∃ z : Int32, z = t88.2 + (1 : Int32) := ⟨_, rfl⟩
      rw [← hz43] at hf
      have he := (Option.some.inj hf).symm
      have hl : lv_has ls 4 [(3, .int z43), (1, .long z42), (0, .ref a0)] := by rw [hz42, hz43]; exact lv_sub hl [0, 1, 2] rfl
      exact hI2 _ he H locs ls hP hD hS hl
  · have hf := kIfF c33 hf
    refine lv_aload_n hx hb dX1_hash_58 rfl (lv_at hl 2 rfl) ?_
    refine lv_lload_n hx hb dX1_hash_59 rfl (lv_at hl 1 rfl) ?_
    refine lv_iload_n hx hb dX1_hash_60 rfl (lv_at hl 0 rfl) ?_
    obtain ⟨v44, h45, hf⟩ := kBind hf
    refine kgoR (krunV (wc := (wX1 cI a0 a1 R)) (As := [.long t48.1, .int t48.2]) (rest := []) (ci := 1) hx hb hml hown hts hK (kX1_hashWithCrane l D cI fu a0 a1 R t48.1 t48.2 v44 h45) gX1_hash_X1_hashWithCrane rfl rfl rfl hdX1_hashWithCrane ⟨Nat.le_of_ble_eq_true rfl, Nat.le_of_ble_eq_true rfl⟩ hP hD rfl rfl rfl rfl hl.1 rfl (Nat.le_of_ble_eq_true rfl) dX1_hash_61 ⟨Nat.zero_le _, Nat.zero_le _⟩) hP hD hS hA [0, 1] rfl (fun H locs hP hS => ?_)
    refine lv_lstore_n (lv' := [(1, .long v44), (3, .int t48.2), (0, .ref a0)]) hx hb dX1_hash_64 rfl hl (by decide) rfl (fun ls hl => ?_)
    refine lv_iinc (v := t48.2 + (1 : Int32)) (lv' := [(3, .int (t48.2 + (1 : Int32))), (1, .long v44), (0, .ref a0)]) hx hb dX1_hash_65 hl (k := 1) rfl rfl (by decide) rfl (fun ls hl => ?_)
    refine lv_goto (tgt := 48) hx hb dX1_hash_68 (by decide) ?_
    obtain ⟨z46, hz46⟩ : ∃ z : Int32, z = t48.2 + (1 : Int32) := ⟨_, rfl⟩
    rw [← hz46] at hf
    have he := (Option.some.inj hf).symm
    have hl : lv_has ls 4 [(3, .int z46), (1, .long v44), (0, .ref a0)] := by rw [hz46]; exact lv_sub hl [0, 1, 2] rfl
    exact hI1 _ he H locs ls hP hD hS hl
set_option maxHeartbeats 4000000 in
set_option maxRecDepth 100000 in
theorem kX1_leaveToWind (l : Launch) (D : va_G) (cI : ClassId) (a0 a1 : Nat) (R : (Nat → Int32)) (x1 : Int32) (o : (Nat → Int32)) (hf : fX1_leaveToWind R x1 = some o) : Ct l yX1_leaveToWind wsX1_leaveToWind { frames := 1, cells := 0, slots := 0, locals := 22 } D cI [.ref a0, .int x1] (wX1 cI a0 a1 R) (wX1 cI a0 a1 o) none := by
  refine Ct.of (cc := cX1_leaveToWind) (maxL := 2) (ret := none) (by decide) rfl (Nat.le_of_ble_eq_true rfl) ?_
  intro p e s m args below meth c A F hP hD hS ls hl
  obtain ⟨hx, hb, hml, hr, hown, hts, hlk, hK, hA⟩ := F
  have hown : s.vm.findClass RX1 = some m.cls := hown
  have hl : lv_has ls 2 [(0, .ref a0), (1, .int x1)] := hl
  have hinX1 : ∀ w ∈ wsX10, w ∈ wsX1_leaveToWind := by decide +kernel
  have hfl11 := hts (.fieldLink RX1 11 "CraneGuard$Site" "row" "[I") (by decide +kernel)
  unfold fX1_leaveToWind at hf
  refine lv_aload_n hx hb dX1_leaveToWind_0 rfl (lv_at hl 0 rfl) ?_
  refine lv_iload_n hx hb dX1_leaveToWind_1 rfl (lv_at hl 1 rfl) ?_
  obtain ⟨v1, h2, hf⟩ := kBind hf
  refine kgoA (krunV (wc := (wX1 cI a0 a1 R)) (As := [.int x1]) (rest := []) (ci := 1) hx hb hml hown hts hK (kX1_dropTarget l D cI a0 a1 R x1 v1 h2) gX1_leaveToWind_X1_dropTarget rfl rfl rfl hdX1_dropTarget ⟨Nat.le_of_ble_eq_true rfl, Nat.le_of_ble_eq_true rfl⟩ hP hD rfl rfl rfl rfl hl.1 rfl (Nat.le_of_ble_eq_true rfl) dX1_leaveToWind_2 ⟨Nat.zero_le _, Nat.zero_le _⟩) hD hS hA (fun H locs hP hD hS => ?_)
  refine lv_pop hx hb dX1_leaveToWind_5 rfl ?_
  refine lv_aload_n hx hb dX1_leaveToWind_6 rfl (lv_at hl 0 rfl) ?_
  refine va_get (D := D) (ci := 1) (v := .ref a1) (C := RX1) (T := TX1) (N := 1) hx hb hts hinX1 hown hK.1 hP 0 rfl rfl 0 (by decide) hfl11 (fun _ h9 => h9) rfl dX1_leaveToWind_7 ?_
  refine lv_bipush (v := (32 : Int32)) hx hb dX1_leaveToWind_10 (by decide) ?_
  refine lv_iload_n hx hb dX1_leaveToWind_12 rfl (lv_at hl 1 rfl) ?_
  refine lv_iadd hx hb dX1_leaveToWind_13 ?_
  refine lv_iconst (v := (1 : Int32)) hx hb dX1_leaveToWind_14 (by decide) ?_
  obtain ⟨v3, h4, hf⟩ := kBind hf
  refine kwr hx hb hK hP hD hS 1 rfl h4 (wX1 cI a0 a1 v3) rfl dX1_leaveToWind_15 (fun H locs hP hD hS => ?_)
  have he := Option.some.inj hf
  subst he
  exact kretv hx hb hr hlk hP hD hS dX1_leaveToWind_16
set_option maxHeartbeats 4000000 in
set_option maxRecDepth 100000 in
theorem kX1_noteCount (l : Launch) (D : va_G) (cI : ClassId) (a0 a1 : Nat) (R : (Nat → Int32)) (o : Int32) (hf : fX1_noteCount R = some o) : Ct l yX1_noteCount wsX1_noteCount { frames := 0, cells := 0, slots := 0, locals := 0 } D cI [.ref a0] (wX1 cI a0 a1 R) (wX1 cI a0 a1 R) (some (.int o)) := by
  refine Ct.of (cc := cX1_noteCount) (maxL := 1) (ret := (some .int)) (by decide) rfl (Nat.le_of_ble_eq_true rfl) ?_
  intro p e s m args below meth c A F hP hD hS ls hl
  obtain ⟨hx, hb, hml, hr, hown, hts, hlk, hK, hA⟩ := F
  have hown : s.vm.findClass RX1 = some m.cls := hown
  have hl : lv_has ls 1 [(0, .ref a0)] := hl
  have hinX1 : ∀ w ∈ wsX10, w ∈ wsX1_noteCount := by decide +kernel
  have hfl11 := hts (.fieldLink RX1 11 "CraneGuard$Site" "row" "[I") (by decide +kernel)
  unfold fX1_noteCount at hf
  refine lv_aload_n hx hb dX1_noteCount_0 rfl (lv_at hl 0 rfl) ?_
  refine va_get (D := D) (ci := 1) (v := .ref a1) (C := RX1) (T := TX1) (N := 1) hx hb hts hinX1 hown hK.1 hP 0 rfl rfl 0 (by decide) hfl11 (fun _ h9 => h9) rfl dX1_noteCount_1 ?_
  refine lv_iconst (v := (3 : Int32)) hx hb dX1_noteCount_4 (by decide) ?_
  obtain ⟨v1, h2, hf⟩ := kBind hf
  refine krd hx hb hK hP 1 rfl h2 dX1_noteCount_5 ?_
  have he := Option.some.inj hf
  subst he
  exact kreti hx hb hr hlk hP hD hS dX1_noteCount_6
set_option maxHeartbeats 4000000 in
set_option maxRecDepth 100000 in
theorem kX1_now (l : Launch) (D : va_G) (cI : ClassId) (a0 a1 : Nat) (R : (Nat → Int32)) (o : Int32) (hf : fX1_now R = some o) : Ct l yX1_now wsX1_now { frames := 0, cells := 0, slots := 0, locals := 0 } D cI [.ref a0] (wX1 cI a0 a1 R) (wX1 cI a0 a1 R) (some (.int o)) := by
  refine Ct.of (cc := cX1_now) (maxL := 1) (ret := (some .int)) (by decide) rfl (Nat.le_of_ble_eq_true rfl) ?_
  intro p e s m args below meth c A F hP hD hS ls hl
  obtain ⟨hx, hb, hml, hr, hown, hts, hlk, hK, hA⟩ := F
  have hown : s.vm.findClass RX1 = some m.cls := hown
  have hl : lv_has ls 1 [(0, .ref a0)] := hl
  have hinX1 : ∀ w ∈ wsX10, w ∈ wsX1_now := by decide +kernel
  have hfl11 := hts (.fieldLink RX1 11 "CraneGuard$Site" "row" "[I") (by decide +kernel)
  unfold fX1_now at hf
  refine lv_aload_n hx hb dX1_now_0 rfl (lv_at hl 0 rfl) ?_
  refine va_get (D := D) (ci := 1) (v := .ref a1) (C := RX1) (T := TX1) (N := 1) hx hb hts hinX1 hown hK.1 hP 0 rfl rfl 0 (by decide) hfl11 (fun _ h9 => h9) rfl dX1_now_1 ?_
  refine lv_iconst (v := (0 : Int32)) hx hb dX1_now_4 (by decide) ?_
  obtain ⟨v1, h2, hf⟩ := kBind hf
  refine krd hx hb hK hP 1 rfl h2 dX1_now_5 ?_
  have he := Option.some.inj hf
  subst he
  exact kreti hx hb hr hlk hP hD hS dX1_now_6
set_option maxHeartbeats 4000000 in
set_option maxRecDepth 100000 in
theorem kX1_partOfNote (l : Launch) (D : va_G) (cI : ClassId) (a0 a1 : Nat) (R : (Nat → Int32)) (x1 : Int32) (x2 : Int32) (o : Int32) (hf : fX1_partOfNote R x1 x2 = some o) : Ct l yX1_partOfNote wsX1_partOfNote { frames := 0, cells := 0, slots := 0, locals := 0 } D cI [.ref a0, .int x1, .int x2] (wX1 cI a0 a1 R) (wX1 cI a0 a1 R) (some (.int o)) := by
  refine Ct.of (cc := cX1_partOfNote) (maxL := 3) (ret := (some .int)) (by decide) rfl (Nat.le_of_ble_eq_true rfl) ?_
  intro p e s m args below meth c A F hP hD hS ls hl
  obtain ⟨hx, hb, hml, hr, hown, hts, hlk, hK, hA⟩ := F
  have hown : s.vm.findClass RX1 = some m.cls := hown
  have hl : lv_has ls 3 [(0, .ref a0), (1, .int x1), (2, .int x2)] := hl
  have hinX1 : ∀ w ∈ wsX10, w ∈ wsX1_partOfNote := by decide +kernel
  have hfl11 := hts (.fieldLink RX1 11 "CraneGuard$Site" "row" "[I") (by decide +kernel)
  unfold fX1_partOfNote at hf
  refine lv_aload_n hx hb dX1_partOfNote_0 rfl (lv_at hl 0 rfl) ?_
  refine va_get (D := D) (ci := 1) (v := .ref a1) (C := RX1) (T := TX1) (N := 1) hx hb hts hinX1 hown hK.1 hP 0 rfl rfl 0 (by decide) hfl11 (fun _ h9 => h9) rfl dX1_partOfNote_1 ?_
  refine lv_bipush (v := (92 : Int32)) hx hb dX1_partOfNote_4 (by decide) ?_
  refine lv_iload_n hx hb dX1_partOfNote_6 rfl (lv_at hl 1 rfl) ?_
  refine lv_iconst (v := (4 : Int32)) hx hb dX1_partOfNote_7 (by decide) ?_
  refine lv_imul hx hb dX1_partOfNote_8 ?_
  refine lv_iadd hx hb dX1_partOfNote_9 ?_
  refine lv_iload_n hx hb dX1_partOfNote_10 rfl (lv_at hl 2 rfl) ?_
  refine lv_iadd hx hb dX1_partOfNote_11 ?_
  obtain ⟨v1, h2, hf⟩ := kBind hf
  refine krd hx hb hK hP 1 rfl h2 dX1_partOfNote_12 ?_
  have he := Option.some.inj hf
  subst he
  exact kreti hx hb hr hlk hP hD hS dX1_partOfNote_13
set_option maxHeartbeats 4000000 in
set_option maxRecDepth 100000 in
theorem kX1_turnToWind (l : Launch) (D : va_G) (cI : ClassId) (a0 a1 : Nat) (R : (Nat → Int32)) (x1 : Int32) (o : Bool × (Nat → Int32)) (hf : fX1_turnToWind R x1 = some o) : Ct l yX1_turnToWind wsX1_turnToWind { frames := 2, cells := 0, slots := 0, locals := 42 } D cI [.ref a0, .int x1] (wX1 cI a0 a1 R) (wX1 cI a0 a1 o.2) (some (.int (bI o.1))) := by
  refine Ct.of (cc := cX1_turnToWind) (maxL := 3) (ret := (some .boolean)) (by decide) rfl (Nat.le_of_ble_eq_true rfl) ?_
  intro p e s m args below meth c A F hP hD hS ls hl
  obtain ⟨hx, hb, hml, hr, hown, hts, hlk, hK, hA⟩ := F
  have hown : s.vm.findClass RX1 = some m.cls := hown
  have hl : lv_has ls 3 [(0, .ref a0), (1, .int x1)] := hl
  have hinX1 : ∀ w ∈ wsX10, w ∈ wsX1_turnToWind := by decide +kernel
  have hfl11 := hts (.fieldLink RX1 11 "CraneGuard$Site" "row" "[I") (by decide +kernel)
  unfold fX1_turnToWind at hf
  refine lv_aload_n hx hb dX1_turnToWind_0 rfl (lv_at hl 0 rfl) ?_
  refine va_get (D := D) (ci := 1) (v := .ref a1) (C := RX1) (T := TX1) (N := 1) hx hb hts hinX1 hown hK.1 hP 0 rfl rfl 0 (by decide) hfl11 (fun _ h9 => h9) rfl dX1_turnToWind_1 ?_
  refine lv_iconst (v := (4 : Int32)) hx hb dX1_turnToWind_4 (by decide) ?_
  refine lv_iload_n hx hb dX1_turnToWind_5 rfl (lv_at hl 1 rfl) ?_
  refine lv_iadd hx hb dX1_turnToWind_6 ?_
  obtain ⟨v1, h2, hf⟩ := kBind hf
  refine krd hx hb hK hP 1 rfl h2 dX1_turnToWind_7 ?_
  refine lv_istore_n (lv' := [(2, .int v1), (0, .ref a0), (1, .int x1)]) hx hb dX1_turnToWind_8 rfl hl (by decide) rfl (fun ls hl => ?_)
  refine lv_iload_n hx hb dX1_turnToWind_9 rfl (lv_at hl 0 rfl) ?_
  refine lv_aload_n hx hb dX1_turnToWind_10 rfl (lv_at hl 1 rfl) ?_
  refine va_get (D := D) (ci := 1) (v := .ref a1) (C := RX1) (T := TX1) (N := 1) hx hb hts hinX1 hown hK.1 hP 0 rfl rfl 0 (by decide) hfl11 (fun _ h9 => h9) rfl dX1_turnToWind_11 ?_
  refine lv_iconst (v := (1 : Int32)) hx hb dX1_turnToWind_14 (by decide) ?_
  obtain ⟨v3, h4, hf⟩ := kBind hf
  refine krd hx hb hK hP 1 rfl h4 dX1_turnToWind_15 ?_
  refine lv_icmp_ne (tgt := 21) hx hb dX1_turnToWind_16 (by decide) (fun c5 => ?_) (fun c5 => ?_)
  · have hf := kIfF c5 hf
    refine lv_aload_n hx hb dX1_turnToWind_21 rfl (lv_at hl 1 rfl) ?_
    refine va_get (D := D) (ci := 1) (v := .ref a1) (C := RX1) (T := TX1) (N := 1) hx hb hts hinX1 hown hK.1 hP 0 rfl rfl 0 (by decide) hfl11 (fun _ h9 => h9) rfl dX1_turnToWind_22 ?_
    refine lv_iconst (v := (4 : Int32)) hx hb dX1_turnToWind_25 (by decide) ?_
    refine lv_iload_n hx hb dX1_turnToWind_26 rfl (lv_at hl 2 rfl) ?_
    refine lv_iadd hx hb dX1_turnToWind_27 ?_
    refine lv_iload_n hx hb dX1_turnToWind_28 rfl (lv_at hl 0 rfl) ?_
    refine lv_iload_n hx hb dX1_turnToWind_29 rfl (lv_at hl 0 rfl) ?_
    refine lv_aload_n hx hb dX1_turnToWind_30 rfl (lv_at hl 1 rfl) ?_
    refine va_get (D := D) (ci := 1) (v := .ref a1) (C := RX1) (T := TX1) (N := 1) hx hb hts hinX1 hown hK.1 hP 0 rfl rfl 0 (by decide) hfl11 (fun _ h9 => h9) rfl dX1_turnToWind_31 ?_
    refine lv_iconst (v := (1 : Int32)) hx hb dX1_turnToWind_34 (by decide) ?_
    obtain ⟨v6, h7, hf⟩ := kBind hf
    refine krd hx hb hK hP 1 rfl h7 dX1_turnToWind_35 ?_
    obtain ⟨v8, h9, hf⟩ := kBind hf
    refine kgoR (krunSN (wc := ([] : va_W)) (As := [.int v1, .int v6]) (rest := [.int v1, .int ((4 : Int32) + x1), .ref a1]) hx hb hml hown hts hK (kX3_shorterWay l D cI v1 v6 v8 h9) ggX1_turnToWind_X3_shorterWay hK.2.1 (hts (.initialized RX3) (by decide +kernel)) (hts (.static yX3_shorterWay) (by decide +kernel)) rfl rfl rfl hdX3_shorterWay ⟨Nat.le_of_ble_eq_true rfl, Nat.le_of_ble_eq_true rfl⟩ k_P0 (k_D0 A) rfl hl.1 rfl (Nat.le_of_ble_eq_true rfl) dX1_turnToWind_36 ⟨Nat.zero_le _, Nat.zero_le _⟩) hP hD hS hA [] rfl (fun H locs hP hS => ?_)
    refine lv_iadd hx hb dX1_turnToWind_39 ?_
    refine lv_bipush (v := (36 : Int32)) hx hb dX1_turnToWind_40 (by decide) ?_
    refine lv_iadd hx hb dX1_turnToWind_42 ?_
    refine lv_bipush (v := (36 : Int32)) hx hb dX1_turnToWind_43 (by decide) ?_
    refine kirem hx hb dX1_turnToWind_45 (by decide) ?_
    obtain ⟨v10, h11, hf⟩ := kBind hf
    refine kwr hx hb hK hP hD hS 1 rfl h11 (wX1 cI a0 a1 v10) rfl dX1_turnToWind_46 (fun H locs hP hD hS => ?_)
    refine lv_iconst (v := (1 : Int32)) hx hb dX1_turnToWind_47 (by decide) ?_
    have he := Option.some.inj hf
    subst he
    exact kretz hx hb hr hlk hP hD hS dX1_turnToWind_48
  · have hf := kIfT c5 hf
    refine lv_iconst (v := (0 : Int32)) hx hb dX1_turnToWind_19 (by decide) ?_
    have he := Option.some.inj hf
    subst he
    exact kretz hx hb hr hlk hP hD hS dX1_turnToWind_20
set_option maxHeartbeats 4000000 in
set_option maxRecDepth 100000 in
theorem kX1_turnJib (l : Launch) (D : va_G) (cI : ClassId) (fu : Nat) (a0 a1 : Nat) (R : (Nat → Int32)) (x1 : Int32) (o : Bool × (Nat → Int32)) (hf : fX1_turnJib fu R x1 = some o) : Ct l yX1_turnJib wsX1_turnJib { frames := 3, cells := 0, slots := 0, locals := 71 } D cI [.ref a0, .int x1] (wX1 cI a0 a1 R) (wX1 cI a0 a1 o.2) (some (.int (bI o.1))) := by
  refine Ct.of (cc := cX1_turnJib) (maxL := 2) (ret := (some .boolean)) (by decide) rfl (Nat.le_of_ble_eq_true rfl) ?_
  intro p e s m args below meth c A F hP hD hS ls hl
  obtain ⟨hx, hb, hml, hr, hown, hts, hlk, hK, hA⟩ := F
  have hown : s.vm.findClass RX1 = some m.cls := hown
  have hl : lv_has ls 2 [(0, .ref a0), (1, .int x1)] := hl
  have hinX1 : ∀ w ∈ wsX10, w ∈ wsX1_turnJib := by decide +kernel
  have hfl11 := hts (.fieldLink RX1 11 "CraneGuard$Site" "row" "[I") (by decide +kernel)
  unfold fX1_turnJib at hf
  refine lv_aload_n hx hb dX1_turnJib_0 rfl (lv_at hl 0 rfl) ?_
  refine lv_iload_n hx hb dX1_turnJib_1 rfl (lv_at hl 1 rfl) ?_
  obtain ⟨v1, h2, hf⟩ := kBind hf
  refine kgoR (krunV (wc := (wX1 cI a0 a1 R)) (As := [.int x1]) (rest := []) (ci := 1) hx hb hml hown hts hK (kX1_isLeft l D cI a0 a1 R x1 v1 h2) gX1_turnJib_X1_isLeft rfl rfl rfl hdX1_isLeft ⟨Nat.le_of_ble_eq_true rfl, Nat.le_of_ble_eq_true rfl⟩ hP hD rfl rfl rfl rfl hl.1 rfl (Nat.le_of_ble_eq_true rfl) dX1_turnJib_2 ⟨Nat.zero_le _, Nat.zero_le _⟩) hP hD hS hA [0, 1] rfl (fun H locs hP hS => ?_)
  refine kif_eqb (tgt := 14) hx hb dX1_turnJib_5 (by decide) (fun c3 => ?_) (fun c3 => ?_)
  · have hf := kIfF c3 hf
    refine lv_aload_n hx hb dX1_turnJib_14 rfl (lv_at hl 0 rfl) ?_
    refine lv_iload_n hx hb dX1_turnJib_15 rfl (lv_at hl 1 rfl) ?_
    obtain ⟨v4, h5, hf⟩ := kBind hf
    refine kgoR (krunV (wc := (wX1 cI a0 a1 R)) (As := [.int x1]) (rest := []) (ci := 1) hx hb hml hown hts hK (kX1_hasTarget l D cI a0 a1 R x1 v4 h5) gX1_turnJib_X1_hasTarget rfl rfl rfl hdX1_hasTarget ⟨Nat.le_of_ble_eq_true rfl, Nat.le_of_ble_eq_true rfl⟩ hP hD rfl rfl rfl rfl hl.1 rfl (Nat.le_of_ble_eq_true rfl) dX1_turnJib_16 ⟨Nat.zero_le _, Nat.zero_le _⟩) hP hD hS hA [0, 1] rfl (fun H locs hP hS => ?_)
    refine kif_neb (tgt := 24) hx hb dX1_turnJib_19 (by decide) (fun c6 => ?_) (fun c6 => ?_)
    · have hf := kIfT c6 hf
      refine lv_aload_n hx hb dX1_turnJib_24 rfl (lv_at hl 0 rfl) ?_
      refine lv_iload_n hx hb dX1_turnJib_25 rfl (lv_at hl 1 rfl) ?_
      obtain ⟨v7, h8, hf⟩ := kBind hf
      refine kgoR (krunV (wc := (wX1 cI a0 a1 R)) (As := [.int x1]) (rest := []) (ci := 1) hx hb hml hown hts hK (kX1_blockerOf l D cI fu a0 a1 R x1 v7 h8) gX1_turnJib_X1_blockerOf rfl rfl rfl hdX1_blockerOf ⟨Nat.le_of_ble_eq_true rfl, Nat.le_of_ble_eq_true rfl⟩ hP hD rfl rfl rfl rfl hl.1 rfl (Nat.le_of_ble_eq_true rfl) dX1_turnJib_26 ⟨Nat.zero_le _, Nat.zero_le _⟩) hP hD hS hA [0, 1] rfl (fun H locs hP hS => ?_)
      refine lv_bipush (v := (-100 : Int32)) hx hb dX1_turnJib_29 (by decide) ?_
      refine lv_icmp_eq (tgt := 49) hx hb dX1_turnJib_31 (by decide) (fun c9 => ?_) (fun c9 => ?_)
      · have hf := kIfT c9 hf
        refine lv_aload_n hx hb dX1_turnJib_49 rfl (lv_at hl 0 rfl) ?_
        refine va_get (D := D) (ci := 1) (v := .ref a1) (C := RX1) (T := TX1) (N := 1) hx hb hts hinX1 hown hK.1 hP 0 rfl rfl 0 (by decide) hfl11 (fun _ h9 => h9) rfl dX1_turnJib_50 ?_
        refine lv_bipush (v := (24 : Int32)) hx hb dX1_turnJib_53 (by decide) ?_
        refine lv_iload_n hx hb dX1_turnJib_55 rfl (lv_at hl 1 rfl) ?_
        refine lv_iadd hx hb dX1_turnJib_56 ?_
        refine lv_dup2_11 hx hb dX1_turnJib_57 rfl rfl ?_
        obtain ⟨v10, h11, hf⟩ := kBind hf
        refine krd hx hb hK hP 1 rfl h11 dX1_turnJib_58 ?_
        refine lv_iconst (v := (1 : Int32)) hx hb dX1_turnJib_59 (by decide) ?_
        refine lv_iadd hx hb dX1_turnJib_60 ?_
        obtain ⟨v12, h13, hf⟩ := kBind hf
        refine kwr hx hb hK hP hD hS 1 rfl h13 (wX1 cI a0 a1 v12) rfl dX1_turnJib_61 (fun H locs hP hD hS => ?_)
        refine lv_aload_n hx hb dX1_turnJib_62 rfl (lv_at hl 0 rfl) ?_
        refine va_get (D := D) (ci := 1) (v := .ref a1) (C := RX1) (T := TX1) (N := 1) hx hb hts hinX1 hown hK.1 hP 0 rfl rfl 0 (by decide) hfl11 (fun _ h9 => h9) rfl dX1_turnJib_63 ?_
        refine lv_bipush (v := (24 : Int32)) hx hb dX1_turnJib_66 (by decide) ?_
        refine lv_iload_n hx hb dX1_turnJib_68 rfl (lv_at hl 1 rfl) ?_
        refine lv_iadd hx hb dX1_turnJib_69 ?_
        obtain ⟨v14, h15, hf⟩ := kBind hf
        refine krd hx hb hK hP 1 rfl h15 dX1_turnJib_70 ?_
        refine lv_aload_n hx hb dX1_turnJib_71 rfl (lv_at hl 0 rfl) ?_
        refine va_get (D := D) (ci := 1) (v := .ref a1) (C := RX1) (T := TX1) (N := 1) hx hb hts hinX1 hown hK.1 hP 0 rfl rfl 0 (by decide) hfl11 (fun _ h9 => h9) rfl dX1_turnJib_72 ?_
        refine lv_bipush (v := (8 : Int32)) hx hb dX1_turnJib_75 (by decide) ?_
        refine lv_iload_n hx hb dX1_turnJib_77 rfl (lv_at hl 1 rfl) ?_
        refine lv_iadd hx hb dX1_turnJib_78 ?_
        obtain ⟨v16, h17, hf⟩ := kBind hf
        refine krd hx hb hK hP 1 rfl h17 dX1_turnJib_79 ?_
        refine lv_icmp_ne (tgt := 88) hx hb dX1_turnJib_80 (by decide) (fun c18 => ?_) (fun c18 => ?_)
        · have hf := kIfF c18 hf
          refine lv_iconst (v := (1 : Int32)) hx hb dX1_turnJib_88 (by decide) ?_
          have he := Option.some.inj hf
          subst he
          exact kretz hx hb hr hlk hP hD hS dX1_turnJib_89
        · have hf := kIfT c18 hf
          refine lv_aload_n hx hb dX1_turnJib_83 rfl (lv_at hl 0 rfl) ?_
          refine lv_iload_n hx hb dX1_turnJib_84 rfl (lv_at hl 1 rfl) ?_
          obtain ⟨v19, h20, hf⟩ := kBind hf
          refine kgoA (krunV (wc := (wX1 cI a0 a1 v12)) (As := [.int x1]) (rest := []) (ci := 1) hx hb hml hown hts hK (kX1_endStep l D cI a0 a1 v12 x1 v19 h20) gX1_turnJib_X1_endStep rfl rfl rfl hdX1_endStep ⟨Nat.le_of_ble_eq_true rfl, Nat.le_of_ble_eq_true rfl⟩ hP hD rfl rfl rfl rfl hl.1 rfl (Nat.le_of_ble_eq_true rfl) dX1_turnJib_85 ⟨Nat.zero_le _, Nat.zero_le _⟩) hD hS hA (fun H locs hP hD hS => ?_)
          refine lv_iconst (v := (1 : Int32)) hx hb dX1_turnJib_88 (by decide) ?_
          have he := Option.some.inj hf
          subst he
          exact kretz hx hb hr hlk hP hD hS dX1_turnJib_89
      · have hf := kIfF c9 hf
        refine lv_aload_n hx hb dX1_turnJib_34 rfl (lv_at hl 0 rfl) ?_
        refine va_get (D := D) (ci := 1) (v := .ref a1) (C := RX1) (T := TX1) (N := 1) hx hb hts hinX1 hown hK.1 hP 0 rfl rfl 0 (by decide) hfl11 (fun _ h9 => h9) rfl dX1_turnJib_35 ?_
        refine lv_bipush (v := (28 : Int32)) hx hb dX1_turnJib_38 (by decide) ?_
        refine lv_iload_n hx hb dX1_turnJib_40 rfl (lv_at hl 1 rfl) ?_
        refine lv_iadd hx hb dX1_turnJib_41 ?_
        refine lv_dup2_11 hx hb dX1_turnJib_42 rfl rfl ?_
        obtain ⟨v21, h22, hf⟩ := kBind hf
        refine krd hx hb hK hP 1 rfl h22 dX1_turnJib_43 ?_
        refine lv_iconst (v := (1 : Int32)) hx hb dX1_turnJib_44 (by decide) ?_
        refine lv_iadd hx hb dX1_turnJib_45 ?_
        obtain ⟨v23, h24, hf⟩ := kBind hf
        refine kwr hx hb hK hP hD hS 1 rfl h24 (wX1 cI a0 a1 v23) rfl dX1_turnJib_46 (fun H locs hP hD hS => ?_)
        refine lv_iconst (v := (0 : Int32)) hx hb dX1_turnJib_47 (by decide) ?_
        have he := Option.some.inj hf
        subst he
        exact kretz hx hb hr hlk hP hD hS dX1_turnJib_48
    · have hf := kIfF c6 hf
      refine lv_iconst (v := (0 : Int32)) hx hb dX1_turnJib_22 (by decide) ?_
      have he := Option.some.inj hf
      subst he
      exact kretz hx hb hr hlk hP hD hS dX1_turnJib_23
  · have hf := kIfT c3 hf
    refine lv_aload_n hx hb dX1_turnJib_8 rfl (lv_at hl 0 rfl) ?_
    refine lv_iload_n hx hb dX1_turnJib_9 rfl (lv_at hl 1 rfl) ?_
    obtain ⟨v25, h26, hf⟩ := kBind hf
    refine kgoA (krunV (wc := (wX1 cI a0 a1 R)) (As := [.int x1]) (rest := []) (ci := 1) hx hb hml hown hts hK (kX1_turnToWind l D cI a0 a1 R x1 v25 h26) gX1_turnJib_X1_turnToWind rfl rfl rfl hdX1_turnToWind ⟨Nat.le_of_ble_eq_true rfl, Nat.le_of_ble_eq_true rfl⟩ hP hD rfl rfl rfl rfl hl.1 rfl (Nat.le_of_ble_eq_true rfl) dX1_turnJib_10 ⟨Nat.zero_le _, Nat.zero_le _⟩) hD hS hA (fun H locs hP hD hS => ?_)
    have he := Option.some.inj hf
    subst he
    exact kretz hx hb hr hlk hP hD hS dX1_turnJib_13
set_option maxHeartbeats 4000000 in
set_option maxRecDepth 100000 in
theorem kX1_passTick (l : Launch) (D : va_G) (cI : ClassId) (fu : Nat) (a0 a1 : Nat) (R : (Nat → Int32)) (o : Bool × (Nat → Int32)) (hf : fX1_passTick fu R = some o) : Ct l yX1_passTick wsX1_passTick { frames := 4, cells := 0, slots := 0, locals := 92 } D cI [.ref a0] (wX1 cI a0 a1 R) (wX1 cI a0 a1 o.2) (some (.int (bI o.1))) := by
  refine Ct.of (cc := cX1_passTick) (maxL := 4) (ret := (some .boolean)) (by decide) rfl (Nat.le_of_ble_eq_true rfl) ?_
  intro p e s m args below meth c A F hP hD hS ls hl
  obtain ⟨hx, hb, hml, hr, hown, hts, hlk, hK, hA⟩ := F
  have hown : s.vm.findClass RX1 = some m.cls := hown
  have hl : lv_has ls 4 [(0, .ref a0)] := hl
  have hinX1 : ∀ w ∈ wsX10, w ∈ wsX1_passTick := by decide +kernel
  have hfl11 := hts (.fieldLink RX1 11 "CraneGuard$Site" "row" "[I") (by decide +kernel)
  unfold fX1_passTick at hf
  refine lv_iconst (v := (0 : Int32)) hx hb dX1_passTick_0 (by decide) ?_
  refine lv_istore_n (lv' := [(1, .int (0 : Int32)), (0, .ref a0)]) hx hb dX1_passTick_1 rfl hl (by decide) rfl (fun ls hl => ?_)
  refine lv_bipush (v := (9 : Int32)) hx hb dX1_passTick_2 (by decide) ?_
  refine lv_istore_n (lv' := [(2, .int (9 : Int32)), (1, .int (0 : Int32)), (0, .ref a0)]) hx hb dX1_passTick_4 rfl hl (by decide) rfl (fun ls hl => ?_)
  have hl : lv_has ls 4 [(2, .int (9 : Int32)), (1, .int (bI false)), (0, .ref a0)] := hl
  refine klp hf (fun t5 : (Nat → Int32) × Bool × Int32 => (wX1 cI a0 a1 t5.1)) 4 (fun t5 : (Nat → Int32) × Bool × Int32 => [(2, .int t5.2.2), (1, .int (bI t5.2.1)), (0, .ref a0)]) ?_ hP hD hS hl
  intro t5 x5_ hf hI1 hO1 H locs ls hP hD hS hl
  unfold fX1_passTick_L5 at hf
  have hP : va_P D vwCl (wX1 cI a0 a1 t5.1) H := hP
  have hD : va_D A (wX1 cI a0 a1 t5.1) := hD
  have hl : lv_has ls 4 [(2, .int t5.2.2), (1, .int (bI t5.2.1)), (0, .ref a0)] := hl
  refine lv_iload_n hx hb dX1_passTick_5 rfl (lv_at hl 0 rfl) ?_
  refine lv_if_lt (tgt := 56) hx hb dX1_passTick_6 (by decide) (fun c32 => ?_) (fun c32 => ?_)
  · have hf := kIfT c32 hf
    refine lv_aload_n hx hb dX1_passTick_56 rfl (lv_at hl 2 rfl) ?_
    refine va_get (D := D) (ci := 1) (v := .ref a1) (C := RX1) (T := TX1) (N := 1) hx hb hts hinX1 hown hK.1 hP 0 rfl rfl 0 (by decide) hfl11 (fun _ h9 => h9) rfl dX1_passTick_57 ?_
    refine lv_iconst (v := (0 : Int32)) hx hb dX1_passTick_60 (by decide) ?_
    refine lv_dup2_11 hx hb dX1_passTick_61 rfl rfl ?_
    obtain ⟨v33, h34, hf⟩ := kBind hf
    refine krd hx hb hK hP 1 rfl h34 dX1_passTick_62 ?_
    refine lv_iconst (v := (1 : Int32)) hx hb dX1_passTick_63 (by decide) ?_
    refine lv_iadd hx hb dX1_passTick_64 ?_
    obtain ⟨v35, h36, hf⟩ := kBind hf
    refine kwr hx hb hK hP hD hS 1 rfl h36 (wX1 cI a0 a1 v35) rfl dX1_passTick_65 (fun H locs hP hD hS => ?_)
    refine lv_iload_n hx hb dX1_passTick_66 rfl (lv_at hl 1 rfl) ?_
    have he := Option.some.inj hf
    have he := hO1 _ he.symm
    subst he
    exact kretz hx hb hr hlk hP hD hS dX1_passTick_67
  · have hf := kIfF c32 hf
    refine lv_iconst (v := (0 : Int32)) hx hb dX1_passTick_9 (by decide) ?_
    refine lv_istore_n (lv' := [(3, .int (0 : Int32)), (2, .int t5.2.2), (1, .int (bI t5.2.1)), (0, .ref a0)]) hx hb dX1_passTick_10 rfl hl (by decide) rfl (fun ls hl => ?_)
    have hl : lv_has ls 4 [(3, .int (0 : Int32)), (2, .int t5.2.2), (1, .int (bI t5.2.1)), (0, .ref a0)] := hl
    refine klp hf (fun t11 : (Nat → Int32) × Bool × Int32 => (wX1 cI a0 a1 t11.1)) 4 (fun t11 : (Nat → Int32) × Bool × Int32 => [(3, .int t11.2.2), (2, .int t5.2.2), (1, .int (bI t11.2.1)), (0, .ref a0)]) ?_ hP hD hS hl
    intro t11 x11_ hf hI2 hO2 H locs ls hP hD hS hl
    unfold fX1_passTick_L11 at hf
    have hP : va_P D vwCl (wX1 cI a0 a1 t11.1) H := hP
    have hD : va_D A (wX1 cI a0 a1 t11.1) := hD
    have hl : lv_has ls 4 [(3, .int t11.2.2), (2, .int t5.2.2), (1, .int (bI t11.2.1)), (0, .ref a0)] := hl
    refine lv_iload_n hx hb dX1_passTick_11 rfl (lv_at hl 0 rfl) ?_
    refine lv_aload_n hx hb dX1_passTick_12 rfl (lv_at hl 3 rfl) ?_
    refine va_get (D := D) (ci := 1) (v := .ref a1) (C := RX1) (T := TX1) (N := 1) hx hb hts hinX1 hown hK.1 hP 0 rfl rfl 0 (by decide) hfl11 (fun _ h9 => h9) rfl dX1_passTick_13 ?_
    refine lv_iconst (v := (2 : Int32)) hx hb dX1_passTick_16 (by decide) ?_
    obtain ⟨v37, h38, hf⟩ := kBind hf
    refine krd hx hb hK hP 1 rfl h38 dX1_passTick_17 ?_
    refine lv_icmp_ge (tgt := 50) hx hb dX1_passTick_18 (by decide) (fun c39 => ?_) (fun c39 => ?_)
    · have hf := kIfT c39 hf
      refine lv_iinc (v := t5.2.2 + (-1 : Int32)) (lv' := [(2, .int (t5.2.2 + (-1 : Int32))), (3, .int t11.2.2), (1, .int (bI t11.2.1)), (0, .ref a0)]) hx hb dX1_passTick_50 hl (k := 1) rfl (congrArg (fun z : Int32 => t5.2.2 + z) (by decide)) (by decide) rfl (fun ls hl => ?_)
      refine lv_goto (tgt := 5) hx hb dX1_passTick_53 (by decide) ?_
      obtain ⟨z40, hz40⟩ : ∃ z : Int32, z = t5.2.2 + (-1 : Int32) := ⟨_, rfl⟩
      rw [← hz40] at hf
      have he := (Option.some.inj hf).symm
      have he := (hO2 _ he).symm
      have hl : lv_has ls 4 [(2, .int z40), (1, .int (bI t11.2.1)), (0, .ref a0)] := by rw [hz40]; exact lv_sub hl [0, 2, 3] rfl
      exact hI1 _ he H locs ls hP hD hS hl
    · have hf := kIfF c39 hf
      refine lv_aload_n hx hb dX1_passTick_21 rfl (lv_at hl 3 rfl) ?_
      refine va_get (D := D) (ci := 1) (v := .ref a1) (C := RX1) (T := TX1) (N := 1) hx hb hts hinX1 hown hK.1 hP 0 rfl rfl 0 (by decide) hfl11 (fun _ h9 => h9) rfl dX1_passTick_22 ?_
      refine lv_bipush (v := (12 : Int32)) hx hb dX1_passTick_25 (by decide) ?_
      refine lv_iload_n hx hb dX1_passTick_27 rfl (lv_at hl 0 rfl) ?_
      refine lv_iadd hx hb dX1_passTick_28 ?_
      obtain ⟨v41, h42, hf⟩ := kBind hf
      refine krd hx hb hK hP 1 rfl h42 dX1_passTick_29 ?_
      refine lv_iload_n hx hb dX1_passTick_30 rfl (lv_at hl 1 rfl) ?_
      refine lv_icmp_ne (tgt := 44) hx hb dX1_passTick_31 (by decide) (fun c43 => ?_) (fun c43 => ?_)
      · have hf := kIfF c43 hf
        refine lv_iinc (v := t11.2.2 + (1 : Int32)) (lv' := [(3, .int (t11.2.2 + (1 : Int32))), (2, .int t5.2.2), (1, .int (bI t11.2.1)), (0, .ref a0)]) hx hb dX1_passTick_44 hl (k := 0) rfl rfl (by decide) rfl (fun ls hl => ?_)
        refine lv_goto (tgt := 11) hx hb dX1_passTick_47 (by decide) ?_
        obtain ⟨z44, hz44⟩ : ∃ z : Int32, z = t11.2.2 + (1 : Int32) := ⟨_, rfl⟩
        rw [← hz44] at hf
        have he := (Option.some.inj hf).symm
        have hl : lv_has ls 4 [(3, .int z44), (2, .int t5.2.2), (1, .int (bI t11.2.1)), (0, .ref a0)] := by rw [hz44]; exact lv_sub hl [0, 1, 2, 3] rfl
        exact hI2 _ he H locs ls hP hD hS hl
      · have hf := kIfT c43 hf
        refine lv_aload_n hx hb dX1_passTick_34 rfl (lv_at hl 3 rfl) ?_
        refine lv_iload_n hx hb dX1_passTick_35 rfl (lv_at hl 0 rfl) ?_
        obtain ⟨v45, h46, hf⟩ := kBind hf
        refine kgoA (krunV (wc := (wX1 cI a0 a1 t11.1)) (As := [.int t11.2.2]) (rest := []) (ci := 1) hx hb hml hown hts hK (kX1_turnJib l D cI fu a0 a1 t11.1 t11.2.2 v45 h46) gX1_passTick_X1_turnJib rfl rfl rfl hdX1_turnJib ⟨Nat.le_of_ble_eq_true rfl, Nat.le_of_ble_eq_true rfl⟩ hP hD rfl rfl rfl rfl hl.1 rfl (Nat.le_of_ble_eq_true rfl) dX1_passTick_36 ⟨Nat.zero_le _, Nat.zero_le _⟩) hD hS hA (fun H locs hP hD hS => ?_)
        refine kif_eqb (tgt := 44) hx hb dX1_passTick_39 (by decide) (fun c47 => ?_) (fun c47 => ?_)
        · have hf := kIfF c47 hf
          refine lv_iinc (v := t11.2.2 + (1 : Int32)) (lv' := [(3, .int (t11.2.2 + (1 : Int32))), (2, .int t5.2.2), (1, .int (bI t11.2.1)), (0, .ref a0)]) hx hb dX1_passTick_44 hl (k := 0) rfl rfl (by decide) rfl (fun ls hl => ?_)
          refine lv_goto (tgt := 11) hx hb dX1_passTick_47 (by decide) ?_
          obtain ⟨z48, hz48⟩ : ∃ z : Int32, z = t11.2.2 + (1 : Int32) := ⟨_, rfl⟩
          rw [← hz48] at hf
          have he := (Option.some.inj hf).symm
          have hl : lv_has ls 4 [(3, .int z48), (2, .int t5.2.2), (1, .int (bI t11.2.1)), (0, .ref a0)] := by rw [hz48]; exact lv_sub hl [0, 1, 2, 3] rfl
          exact hI2 _ he H locs ls hP hD hS hl
        · have hf := kIfT c47 hf
          refine lv_iconst (v := (1 : Int32)) hx hb dX1_passTick_42 (by decide) ?_
          refine lv_istore_n (lv' := [(1, .int (1 : Int32)), (3, .int t11.2.2), (2, .int t5.2.2), (0, .ref a0)]) hx hb dX1_passTick_43 rfl hl (by decide) rfl (fun ls hl => ?_)
          refine lv_iinc (v := t11.2.2 + (1 : Int32)) (lv' := [(3, .int (t11.2.2 + (1 : Int32))), (1, .int (1 : Int32)), (2, .int t5.2.2), (0, .ref a0)]) hx hb dX1_passTick_44 hl (k := 1) rfl rfl (by decide) rfl (fun ls hl => ?_)
          refine lv_goto (tgt := 11) hx hb dX1_passTick_47 (by decide) ?_
          obtain ⟨z49, hz49⟩ : ∃ z : Int32, z = t11.2.2 + (1 : Int32) := ⟨_, rfl⟩
          rw [← hz49] at hf
          have he := (Option.some.inj hf).symm
          have hl : lv_has ls 4 [(3, .int z49), (2, .int t5.2.2), (1, .int (bI true)), (0, .ref a0)] := by rw [hz49]; exact lv_sub hl [0, 2, 1, 3] rfl
          exact hI2 _ he H locs ls hP hD hS hl
set_option maxHeartbeats 4000000 in
set_option maxRecDepth 100000 in
theorem kX1_putCrane (l : Launch) (D : va_G) (cI : ClassId) (a0 a1 : Nat) (R : (Nat → Int32)) (x1 : Int32) (x2 : Int32) (x3 : Int32) (o : Int32 × (Nat → Int32)) (hf : fX1_putCrane R x1 x2 x3 = some o) : Ct l yX1_putCrane wsX1_putCrane { frames := 0, cells := 0, slots := 0, locals := 0 } D cI [.ref a0, .int x1, .int x2, .int x3] (wX1 cI a0 a1 R) (wX1 cI a0 a1 o.2) (some (.int o.1)) := by
  refine Ct.of (cc := cX1_putCrane) (maxL := 5) (ret := (some .int)) (by decide) rfl (Nat.le_of_ble_eq_true rfl) ?_
  intro p e s m args below meth c A F hP hD hS ls hl
  obtain ⟨hx, hb, hml, hr, hown, hts, hlk, hK, hA⟩ := F
  have hown : s.vm.findClass RX1 = some m.cls := hown
  have hl : lv_has ls 5 [(0, .ref a0), (1, .int x1), (2, .int x2), (3, .int x3)] := hl
  have hinX1 : ∀ w ∈ wsX10, w ∈ wsX1_putCrane := by decide +kernel
  have hfl11 := hts (.fieldLink RX1 11 "CraneGuard$Site" "row" "[I") (by decide +kernel)
  unfold fX1_putCrane at hf
  refine lv_aload_n hx hb dX1_putCrane_0 rfl (lv_at hl 0 rfl) ?_
  refine va_get (D := D) (ci := 1) (v := .ref a1) (C := RX1) (T := TX1) (N := 1) hx hb hts hinX1 hown hK.1 hP 0 rfl rfl 0 (by decide) hfl11 (fun _ h9 => h9) rfl dX1_putCrane_1 ?_
  refine lv_iconst (v := (2 : Int32)) hx hb dX1_putCrane_4 (by decide) ?_
  obtain ⟨v1, h2, hf⟩ := kBind hf
  refine krd hx hb hK hP 1 rfl h2 dX1_putCrane_5 ?_
  refine lv_istore (lv' := [(4, .int v1), (0, .ref a0), (1, .int x1), (2, .int x2), (3, .int x3)]) hx hb dX1_putCrane_6 hl (by decide) rfl (fun ls hl => ?_)
  refine lv_aload_n hx hb dX1_putCrane_8 rfl (lv_at hl 1 rfl) ?_
  refine va_get (D := D) (ci := 1) (v := .ref a1) (C := RX1) (T := TX1) (N := 1) hx hb hts hinX1 hown hK.1 hP 0 rfl rfl 0 (by decide) hfl11 (fun _ h9 => h9) rfl dX1_putCrane_9 ?_
  refine lv_iconst (v := (2 : Int32)) hx hb dX1_putCrane_12 (by decide) ?_
  refine lv_iload hx hb dX1_putCrane_13 (lv_at hl 0 rfl) ?_
  refine lv_iconst (v := (1 : Int32)) hx hb dX1_putCrane_15 (by decide) ?_
  refine lv_iadd hx hb dX1_putCrane_16 ?_
  obtain ⟨v3, h4, hf⟩ := kBind hf
  refine kwr hx hb hK hP hD hS 1 rfl h4 (wX1 cI a0 a1 v3) rfl dX1_putCrane_17 (fun H locs hP hD hS => ?_)
  refine lv_aload_n hx hb dX1_putCrane_18 rfl (lv_at hl 1 rfl) ?_
  refine va_get (D := D) (ci := 1) (v := .ref a1) (C := RX1) (T := TX1) (N := 1) hx hb hts hinX1 hown hK.1 hP 0 rfl rfl 0 (by decide) hfl11 (fun _ h9 => h9) rfl dX1_putCrane_19 ?_
  refine lv_iconst (v := (4 : Int32)) hx hb dX1_putCrane_22 (by decide) ?_
  refine lv_iload hx hb dX1_putCrane_23 (lv_at hl 0 rfl) ?_
  refine lv_iadd hx hb dX1_putCrane_25 ?_
  refine lv_iload_n hx hb dX1_putCrane_26 rfl (lv_at hl 2 rfl) ?_
  obtain ⟨v5, h6, hf⟩ := kBind hf
  refine kwr hx hb hK hP hD hS 1 rfl h6 (wX1 cI a0 a1 v5) rfl dX1_putCrane_27 (fun H locs hP hD hS => ?_)
  refine lv_aload_n hx hb dX1_putCrane_28 rfl (lv_at hl 1 rfl) ?_
  refine va_get (D := D) (ci := 1) (v := .ref a1) (C := RX1) (T := TX1) (N := 1) hx hb hts hinX1 hown hK.1 hP 0 rfl rfl 0 (by decide) hfl11 (fun _ h9 => h9) rfl dX1_putCrane_29 ?_
  refine lv_bipush (v := (8 : Int32)) hx hb dX1_putCrane_32 (by decide) ?_
  refine lv_iload hx hb dX1_putCrane_34 (lv_at hl 0 rfl) ?_
  refine lv_iadd hx hb dX1_putCrane_36 ?_
  refine lv_iload_n hx hb dX1_putCrane_37 rfl (lv_at hl 3 rfl) ?_
  obtain ⟨v7, h8, hf⟩ := kBind hf
  refine kwr hx hb hK hP hD hS 1 rfl h8 (wX1 cI a0 a1 v7) rfl dX1_putCrane_38 (fun H locs hP hD hS => ?_)
  refine lv_aload_n hx hb dX1_putCrane_39 rfl (lv_at hl 1 rfl) ?_
  refine va_get (D := D) (ci := 1) (v := .ref a1) (C := RX1) (T := TX1) (N := 1) hx hb hts hinX1 hown hK.1 hP 0 rfl rfl 0 (by decide) hfl11 (fun _ h9 => h9) rfl dX1_putCrane_40 ?_
  refine lv_bipush (v := (12 : Int32)) hx hb dX1_putCrane_43 (by decide) ?_
  refine lv_iload hx hb dX1_putCrane_45 (lv_at hl 0 rfl) ?_
  refine lv_iadd hx hb dX1_putCrane_47 ?_
  refine lv_iload_n hx hb dX1_putCrane_48 rfl (lv_at hl 4 rfl) ?_
  obtain ⟨v9, h10, hf⟩ := kBind hf
  refine kwr hx hb hK hP hD hS 1 rfl h10 (wX1 cI a0 a1 v9) rfl dX1_putCrane_49 (fun H locs hP hD hS => ?_)
  refine lv_aload_n hx hb dX1_putCrane_50 rfl (lv_at hl 1 rfl) ?_
  refine va_get (D := D) (ci := 1) (v := .ref a1) (C := RX1) (T := TX1) (N := 1) hx hb hts hinX1 hown hK.1 hP 0 rfl rfl 0 (by decide) hfl11 (fun _ h9 => h9) rfl dX1_putCrane_51 ?_
  refine lv_bipush (v := (16 : Int32)) hx hb dX1_putCrane_54 (by decide) ?_
  refine lv_iload hx hb dX1_putCrane_56 (lv_at hl 0 rfl) ?_
  refine lv_iadd hx hb dX1_putCrane_58 ?_
  refine lv_bipush (v := (-100 : Int32)) hx hb dX1_putCrane_59 (by decide) ?_
  obtain ⟨v11, h12, hf⟩ := kBind hf
  refine kwr hx hb hK hP hD hS 1 rfl h12 (wX1 cI a0 a1 v11) rfl dX1_putCrane_61 (fun H locs hP hD hS => ?_)
  refine lv_iload hx hb dX1_putCrane_62 (lv_at hl 0 rfl) ?_
  have he := Option.some.inj hf
  subst he
  exact kreti hx hb hr hlk hP hD hS dX1_putCrane_64
set_option maxHeartbeats 4000000 in
set_option maxRecDepth 100000 in
theorem kX1_putNote (l : Launch) (D : va_G) (cI : ClassId) (a0 a1 : Nat) (R : (Nat → Int32)) (x1 : Int32) (x2 : Int32) (x3 : Int32) (o : (Nat → Int32)) (hf : fX1_putNote R x1 x2 x3 = some o) : Ct l yX1_putNote wsX1_putNote { frames := 0, cells := 0, slots := 0, locals := 0 } D cI [.ref a0, .int x1, .int x2, .int x3] (wX1 cI a0 a1 R) (wX1 cI a0 a1 o) none := by
  refine Ct.of (cc := cX1_putNote) (maxL := 5) (ret := none) (by decide) rfl (Nat.le_of_ble_eq_true rfl) ?_
  intro p e s m args below meth c A F hP hD hS ls hl
  obtain ⟨hx, hb, hml, hr, hown, hts, hlk, hK, hA⟩ := F
  have hown : s.vm.findClass RX1 = some m.cls := hown
  have hl : lv_has ls 5 [(0, .ref a0), (1, .int x1), (2, .int x2), (3, .int x3)] := hl
  have hinX1 : ∀ w ∈ wsX10, w ∈ wsX1_putNote := by decide +kernel
  have hfl11 := hts (.fieldLink RX1 11 "CraneGuard$Site" "row" "[I") (by decide +kernel)
  unfold fX1_putNote at hf
  refine lv_bipush (v := (92 : Int32)) hx hb dX1_putNote_0 (by decide) ?_
  refine lv_aload_n hx hb dX1_putNote_2 rfl (lv_at hl 0 rfl) ?_
  refine va_get (D := D) (ci := 1) (v := .ref a1) (C := RX1) (T := TX1) (N := 1) hx hb hts hinX1 hown hK.1 hP 0 rfl rfl 0 (by decide) hfl11 (fun _ h9 => h9) rfl dX1_putNote_3 ?_
  refine lv_iconst (v := (3 : Int32)) hx hb dX1_putNote_6 (by decide) ?_
  obtain ⟨v1, h2, hf⟩ := kBind hf
  refine krd hx hb hK hP 1 rfl h2 dX1_putNote_7 ?_
  refine lv_iconst (v := (4 : Int32)) hx hb dX1_putNote_8 (by decide) ?_
  refine lv_imul hx hb dX1_putNote_9 ?_
  refine lv_iadd hx hb dX1_putNote_10 ?_
  refine lv_istore (lv' := [(4, .int ((92 : Int32) + (v1 * (4 : Int32)))), (0, .ref a0), (1, .int x1), (2, .int x2), (3, .int x3)]) hx hb dX1_putNote_11 hl (by decide) rfl (fun ls hl => ?_)
  refine lv_aload_n hx hb dX1_putNote_13 rfl (lv_at hl 1 rfl) ?_
  refine va_get (D := D) (ci := 1) (v := .ref a1) (C := RX1) (T := TX1) (N := 1) hx hb hts hinX1 hown hK.1 hP 0 rfl rfl 0 (by decide) hfl11 (fun _ h9 => h9) rfl dX1_putNote_14 ?_
  refine lv_iload hx hb dX1_putNote_17 (lv_at hl 0 rfl) ?_
  refine lv_aload_n hx hb dX1_putNote_19 rfl (lv_at hl 1 rfl) ?_
  refine va_get (D := D) (ci := 1) (v := .ref a1) (C := RX1) (T := TX1) (N := 1) hx hb hts hinX1 hown hK.1 hP 0 rfl rfl 0 (by decide) hfl11 (fun _ h9 => h9) rfl dX1_putNote_20 ?_
  refine lv_iconst (v := (0 : Int32)) hx hb dX1_putNote_23 (by decide) ?_
  obtain ⟨v3, h4, hf⟩ := kBind hf
  refine krd hx hb hK hP 1 rfl h4 dX1_putNote_24 ?_
  obtain ⟨v5, h6, hf⟩ := kBind hf
  refine kwr hx hb hK hP hD hS 1 rfl h6 (wX1 cI a0 a1 v5) rfl dX1_putNote_25 (fun H locs hP hD hS => ?_)
  refine lv_aload_n hx hb dX1_putNote_26 rfl (lv_at hl 1 rfl) ?_
  refine va_get (D := D) (ci := 1) (v := .ref a1) (C := RX1) (T := TX1) (N := 1) hx hb hts hinX1 hown hK.1 hP 0 rfl rfl 0 (by decide) hfl11 (fun _ h9 => h9) rfl dX1_putNote_27 ?_
  refine lv_iload hx hb dX1_putNote_30 (lv_at hl 0 rfl) ?_
  refine lv_iconst (v := (1 : Int32)) hx hb dX1_putNote_32 (by decide) ?_
  refine lv_iadd hx hb dX1_putNote_33 ?_
  refine lv_iload_n hx hb dX1_putNote_34 rfl (lv_at hl 2 rfl) ?_
  obtain ⟨v7, h8, hf⟩ := kBind hf
  refine kwr hx hb hK hP hD hS 1 rfl h8 (wX1 cI a0 a1 v7) rfl dX1_putNote_35 (fun H locs hP hD hS => ?_)
  refine lv_aload_n hx hb dX1_putNote_36 rfl (lv_at hl 1 rfl) ?_
  refine va_get (D := D) (ci := 1) (v := .ref a1) (C := RX1) (T := TX1) (N := 1) hx hb hts hinX1 hown hK.1 hP 0 rfl rfl 0 (by decide) hfl11 (fun _ h9 => h9) rfl dX1_putNote_37 ?_
  refine lv_iload hx hb dX1_putNote_40 (lv_at hl 0 rfl) ?_
  refine lv_iconst (v := (2 : Int32)) hx hb dX1_putNote_42 (by decide) ?_
  refine lv_iadd hx hb dX1_putNote_43 ?_
  refine lv_iload_n hx hb dX1_putNote_44 rfl (lv_at hl 3 rfl) ?_
  obtain ⟨v9, h10, hf⟩ := kBind hf
  refine kwr hx hb hK hP hD hS 1 rfl h10 (wX1 cI a0 a1 v9) rfl dX1_putNote_45 (fun H locs hP hD hS => ?_)
  refine lv_aload_n hx hb dX1_putNote_46 rfl (lv_at hl 1 rfl) ?_
  refine va_get (D := D) (ci := 1) (v := .ref a1) (C := RX1) (T := TX1) (N := 1) hx hb hts hinX1 hown hK.1 hP 0 rfl rfl 0 (by decide) hfl11 (fun _ h9 => h9) rfl dX1_putNote_47 ?_
  refine lv_iload hx hb dX1_putNote_50 (lv_at hl 0 rfl) ?_
  refine lv_iconst (v := (3 : Int32)) hx hb dX1_putNote_52 (by decide) ?_
  refine lv_iadd hx hb dX1_putNote_53 ?_
  refine lv_iload_n hx hb dX1_putNote_54 rfl (lv_at hl 4 rfl) ?_
  obtain ⟨v11, h12, hf⟩ := kBind hf
  refine kwr hx hb hK hP hD hS 1 rfl h12 (wX1 cI a0 a1 v11) rfl dX1_putNote_55 (fun H locs hP hD hS => ?_)
  refine lv_aload_n hx hb dX1_putNote_56 rfl (lv_at hl 1 rfl) ?_
  refine va_get (D := D) (ci := 1) (v := .ref a1) (C := RX1) (T := TX1) (N := 1) hx hb hts hinX1 hown hK.1 hP 0 rfl rfl 0 (by decide) hfl11 (fun _ h9 => h9) rfl dX1_putNote_57 ?_
  refine lv_iconst (v := (3 : Int32)) hx hb dX1_putNote_60 (by decide) ?_
  refine lv_dup2_11 hx hb dX1_putNote_61 rfl rfl ?_
  obtain ⟨v13, h14, hf⟩ := kBind hf
  refine krd hx hb hK hP 1 rfl h14 dX1_putNote_62 ?_
  refine lv_iconst (v := (1 : Int32)) hx hb dX1_putNote_63 (by decide) ?_
  refine lv_iadd hx hb dX1_putNote_64 ?_
  obtain ⟨v15, h16, hf⟩ := kBind hf
  refine kwr hx hb hK hP hD hS 1 rfl h16 (wX1 cI a0 a1 v15) rfl dX1_putNote_65 (fun H locs hP hD hS => ?_)
  have he := Option.some.inj hf
  subst he
  exact kretv hx hb hr hlk hP hD hS dX1_putNote_66
set_option maxHeartbeats 4000000 in
set_option maxRecDepth 100000 in
theorem kX1_setLimits (l : Launch) (D : va_G) (cI : ClassId) (a0 a1 : Nat) (R : (Nat → Int32)) (x1 : Int32) (x2 : Int32) (x3 : Int32) (x4 : Int32) (o : (Nat → Int32)) (hf : fX1_setLimits R x1 x2 x3 x4 = some o) : Ct l yX1_setLimits wsX1_setLimits { frames := 0, cells := 0, slots := 0, locals := 0 } D cI [.ref a0, .int x1, .int x2, .int x3, .int x4] (wX1 cI a0 a1 R) (wX1 cI a0 a1 o) none := by
  refine Ct.of (cc := cX1_setLimits) (maxL := 5) (ret := none) (by decide) rfl (Nat.le_of_ble_eq_true rfl) ?_
  intro p e s m args below meth c A F hP hD hS ls hl
  obtain ⟨hx, hb, hml, hr, hown, hts, hlk, hK, hA⟩ := F
  have hown : s.vm.findClass RX1 = some m.cls := hown
  have hl : lv_has ls 5 [(0, .ref a0), (1, .int x1), (2, .int x2), (3, .int x3), (4, .int x4)] := hl
  have hinX1 : ∀ w ∈ wsX10, w ∈ wsX1_setLimits := by decide +kernel
  have hfl11 := hts (.fieldLink RX1 11 "CraneGuard$Site" "row" "[I") (by decide +kernel)
  unfold fX1_setLimits at hf
  refine lv_aload_n hx hb dX1_setLimits_0 rfl (lv_at hl 0 rfl) ?_
  refine va_get (D := D) (ci := 1) (v := .ref a1) (C := RX1) (T := TX1) (N := 1) hx hb hts hinX1 hown hK.1 hP 0 rfl rfl 0 (by decide) hfl11 (fun _ h9 => h9) rfl dX1_setLimits_1 ?_
  refine lv_bipush (v := (44 : Int32)) hx hb dX1_setLimits_4 (by decide) ?_
  refine lv_iload_n hx hb dX1_setLimits_6 rfl (lv_at hl 1 rfl) ?_
  refine lv_bipush (v := (6 : Int32)) hx hb dX1_setLimits_7 (by decide) ?_
  refine lv_imul hx hb dX1_setLimits_9 ?_
  refine lv_iadd hx hb dX1_setLimits_10 ?_
  refine lv_iload_n hx hb dX1_setLimits_11 rfl (lv_at hl 2 rfl) ?_
  refine lv_iadd hx hb dX1_setLimits_12 ?_
  refine lv_iload_n hx hb dX1_setLimits_13 rfl (lv_at hl 3 rfl) ?_
  obtain ⟨v1, h2, hf⟩ := kBind hf
  refine kwr hx hb hK hP hD hS 1 rfl h2 (wX1 cI a0 a1 v1) rfl dX1_setLimits_14 (fun H locs hP hD hS => ?_)
  refine lv_aload_n hx hb dX1_setLimits_15 rfl (lv_at hl 0 rfl) ?_
  refine va_get (D := D) (ci := 1) (v := .ref a1) (C := RX1) (T := TX1) (N := 1) hx hb hts hinX1 hown hK.1 hP 0 rfl rfl 0 (by decide) hfl11 (fun _ h9 => h9) rfl dX1_setLimits_16 ?_
  refine lv_bipush (v := (68 : Int32)) hx hb dX1_setLimits_19 (by decide) ?_
  refine lv_iload_n hx hb dX1_setLimits_21 rfl (lv_at hl 1 rfl) ?_
  refine lv_bipush (v := (6 : Int32)) hx hb dX1_setLimits_22 (by decide) ?_
  refine lv_imul hx hb dX1_setLimits_24 ?_
  refine lv_iadd hx hb dX1_setLimits_25 ?_
  refine lv_iload_n hx hb dX1_setLimits_26 rfl (lv_at hl 2 rfl) ?_
  refine lv_iadd hx hb dX1_setLimits_27 ?_
  refine lv_iload hx hb dX1_setLimits_28 (lv_at hl 4 rfl) ?_
  obtain ⟨v3, h4, hf⟩ := kBind hf
  refine kwr hx hb hK hP hD hS 1 rfl h4 (wX1 cI a0 a1 v3) rfl dX1_setLimits_30 (fun H locs hP hD hS => ?_)
  have he := Option.some.inj hf
  subst he
  exact kretv hx hb hr hlk hP hD hS dX1_setLimits_31
set_option maxHeartbeats 4000000 in
set_option maxRecDepth 100000 in
theorem kX1_takeBack (l : Launch) (D : va_G) (cI : ClassId) (a0 a1 : Nat) (R : (Nat → Int32)) (x1 : Int32) (o : (Nat → Int32)) (hf : fX1_takeBack R x1 = some o) : Ct l yX1_takeBack wsX1_takeBack { frames := 0, cells := 0, slots := 0, locals := 0 } D cI [.ref a0, .int x1] (wX1 cI a0 a1 R) (wX1 cI a0 a1 o) none := by
  refine Ct.of (cc := cX1_takeBack) (maxL := 2) (ret := none) (by decide) rfl (Nat.le_of_ble_eq_true rfl) ?_
  intro p e s m args below meth c A F hP hD hS ls hl
  obtain ⟨hx, hb, hml, hr, hown, hts, hlk, hK, hA⟩ := F
  have hown : s.vm.findClass RX1 = some m.cls := hown
  have hl : lv_has ls 2 [(0, .ref a0), (1, .int x1)] := hl
  have hinX1 : ∀ w ∈ wsX10, w ∈ wsX1_takeBack := by decide +kernel
  have hfl11 := hts (.fieldLink RX1 11 "CraneGuard$Site" "row" "[I") (by decide +kernel)
  unfold fX1_takeBack at hf
  refine lv_aload_n hx hb dX1_takeBack_0 rfl (lv_at hl 0 rfl) ?_
  refine va_get (D := D) (ci := 1) (v := .ref a1) (C := RX1) (T := TX1) (N := 1) hx hb hts hinX1 hown hK.1 hP 0 rfl rfl 0 (by decide) hfl11 (fun _ h9 => h9) rfl dX1_takeBack_1 ?_
  refine lv_bipush (v := (32 : Int32)) hx hb dX1_takeBack_4 (by decide) ?_
  refine lv_iload_n hx hb dX1_takeBack_6 rfl (lv_at hl 1 rfl) ?_
  refine lv_iadd hx hb dX1_takeBack_7 ?_
  refine lv_iconst (v := (0 : Int32)) hx hb dX1_takeBack_8 (by decide) ?_
  obtain ⟨v1, h2, hf⟩ := kBind hf
  refine kwr hx hb hK hP hD hS 1 rfl h2 (wX1 cI a0 a1 v1) rfl dX1_takeBack_9 (fun H locs hP hD hS => ?_)
  have he := Option.some.inj hf
  subst he
  exact kretv hx hb hr hlk hP hD hS dX1_takeBack_10
set_option maxHeartbeats 4000000 in
set_option maxRecDepth 100000 in
theorem kX1_ticksToTarget (l : Launch) (D : va_G) (cI : ClassId) (a0 a1 : Nat) (R : (Nat → Int32)) (x1 : Int32) (o : Int32) (hf : fX1_ticksToTarget R x1 = some o) : Ct l yX1_ticksToTarget wsX1_ticksToTarget { frames := 2, cells := 0, slots := 0, locals := 44 } D cI [.ref a0, .int x1] (wX1 cI a0 a1 R) (wX1 cI a0 a1 R) (some (.int o)) := by
  refine Ct.of (cc := cX1_ticksToTarget) (maxL := 2) (ret := (some .int)) (by decide) rfl (Nat.le_of_ble_eq_true rfl) ?_
  intro p e s m args below meth c A F hP hD hS ls hl
  obtain ⟨hx, hb, hml, hr, hown, hts, hlk, hK, hA⟩ := F
  have hown : s.vm.findClass RX1 = some m.cls := hown
  have hl : lv_has ls 2 [(0, .ref a0), (1, .int x1)] := hl
  have hinX1 : ∀ w ∈ wsX10, w ∈ wsX1_ticksToTarget := by decide +kernel
  have hfl11 := hts (.fieldLink RX1 11 "CraneGuard$Site" "row" "[I") (by decide +kernel)
  unfold fX1_ticksToTarget at hf
  refine lv_aload_n hx hb dX1_ticksToTarget_0 rfl (lv_at hl 0 rfl) ?_
  refine lv_iload_n hx hb dX1_ticksToTarget_1 rfl (lv_at hl 1 rfl) ?_
  obtain ⟨v1, h2, hf⟩ := kBind hf
  refine kgoR (krunV (wc := (wX1 cI a0 a1 R)) (As := [.int x1]) (rest := []) (ci := 1) hx hb hml hown hts hK (kX1_stepsToTarget l D cI a0 a1 R x1 v1 h2) gX1_ticksToTarget_X1_stepsToTarget rfl rfl rfl hdX1_stepsToTarget ⟨Nat.le_of_ble_eq_true rfl, Nat.le_of_ble_eq_true rfl⟩ hP hD rfl rfl rfl rfl hl.1 rfl (Nat.le_of_ble_eq_true rfl) dX1_ticksToTarget_2 ⟨Nat.zero_le _, Nat.zero_le _⟩) hP hD hS hA [0, 1] rfl (fun H locs hP hS => ?_)
  refine lv_aload_n hx hb dX1_ticksToTarget_5 rfl (lv_at hl 0 rfl) ?_
  refine va_get (D := D) (ci := 1) (v := .ref a1) (C := RX1) (T := TX1) (N := 1) hx hb hts hinX1 hown hK.1 hP 0 rfl rfl 0 (by decide) hfl11 (fun _ h9 => h9) rfl dX1_ticksToTarget_6 ?_
  refine lv_bipush (v := (8 : Int32)) hx hb dX1_ticksToTarget_9 (by decide) ?_
  refine lv_iload_n hx hb dX1_ticksToTarget_11 rfl (lv_at hl 1 rfl) ?_
  refine lv_iadd hx hb dX1_ticksToTarget_12 ?_
  obtain ⟨v3, h4, hf⟩ := kBind hf
  refine krd hx hb hK hP 1 rfl h4 dX1_ticksToTarget_13 ?_
  refine lv_imul hx hb dX1_ticksToTarget_14 ?_
  refine lv_aload_n hx hb dX1_ticksToTarget_15 rfl (lv_at hl 0 rfl) ?_
  refine va_get (D := D) (ci := 1) (v := .ref a1) (C := RX1) (T := TX1) (N := 1) hx hb hts hinX1 hown hK.1 hP 0 rfl rfl 0 (by decide) hfl11 (fun _ h9 => h9) rfl dX1_ticksToTarget_16 ?_
  refine lv_bipush (v := (24 : Int32)) hx hb dX1_ticksToTarget_19 (by decide) ?_
  refine lv_iload_n hx hb dX1_ticksToTarget_21 rfl (lv_at hl 1 rfl) ?_
  refine lv_iadd hx hb dX1_ticksToTarget_22 ?_
  obtain ⟨v5, h6, hf⟩ := kBind hf
  refine krd hx hb hK hP 1 rfl h6 dX1_ticksToTarget_23 ?_
  refine lv_isub hx hb dX1_ticksToTarget_24 ?_
  obtain ⟨z7, hz7⟩ : ∃ z : Int32, z = (v1 * v3) - v5 := ⟨_, rfl⟩
  rw [← hz7] at hf
  rw [← hz7]
  have he := Option.some.inj hf
  subst he
  exact kreti hx hb hr hlk hP hD hS dX1_ticksToTarget_25
set_option maxHeartbeats 4000000 in
set_option maxRecDepth 100000 in
theorem kX1_waitOf (l : Launch) (D : va_G) (cI : ClassId) (a0 a1 : Nat) (R : (Nat → Int32)) (x1 : Int32) (o : Int32) (hf : fX1_waitOf R x1 = some o) : Ct l yX1_waitOf wsX1_waitOf { frames := 0, cells := 0, slots := 0, locals := 0 } D cI [.ref a0, .int x1] (wX1 cI a0 a1 R) (wX1 cI a0 a1 R) (some (.int o)) := by
  refine Ct.of (cc := cX1_waitOf) (maxL := 2) (ret := (some .int)) (by decide) rfl (Nat.le_of_ble_eq_true rfl) ?_
  intro p e s m args below meth c A F hP hD hS ls hl
  obtain ⟨hx, hb, hml, hr, hown, hts, hlk, hK, hA⟩ := F
  have hown : s.vm.findClass RX1 = some m.cls := hown
  have hl : lv_has ls 2 [(0, .ref a0), (1, .int x1)] := hl
  have hinX1 : ∀ w ∈ wsX10, w ∈ wsX1_waitOf := by decide +kernel
  have hfl11 := hts (.fieldLink RX1 11 "CraneGuard$Site" "row" "[I") (by decide +kernel)
  unfold fX1_waitOf at hf
  refine lv_aload_n hx hb dX1_waitOf_0 rfl (lv_at hl 0 rfl) ?_
  refine va_get (D := D) (ci := 1) (v := .ref a1) (C := RX1) (T := TX1) (N := 1) hx hb hts hinX1 hown hK.1 hP 0 rfl rfl 0 (by decide) hfl11 (fun _ h9 => h9) rfl dX1_waitOf_1 ?_
  refine lv_bipush (v := (28 : Int32)) hx hb dX1_waitOf_4 (by decide) ?_
  refine lv_iload_n hx hb dX1_waitOf_6 rfl (lv_at hl 1 rfl) ?_
  refine lv_iadd hx hb dX1_waitOf_7 ?_
  obtain ⟨v1, h2, hf⟩ := kBind hf
  refine krd hx hb hK hP 1 rfl h2 dX1_waitOf_8 ?_
  have he := Option.some.inj hf
  subst he
  exact kreti hx hb hr hlk hP hD hS dX1_waitOf_9
set_option maxHeartbeats 4000000 in
set_option maxRecDepth 100000 in
theorem kX2_append (l : Launch) (D : va_G) (cI : ClassId) (a0 a1 a2 a3 a4 : Nat) (TB : (Nat → Int32)) (LN : Int32) (PS : Int32) (TC : (Nat → Int32)) (TW : (Nat → Int32)) (TG : (Nat → Int32)) (CM : Int32) (x1 : Int32) (o : Int32 × (Nat → Int32) × Int32) (hf : fX2_append TB LN x1 = some o) : Ct l yX2_append wsX2_append { frames := 0, cells := 0, slots := 0, locals := 0 } D cI [.ref a0, .int x1] (wX2 cI a0 a1 a2 a3 a4 TB LN PS TC TW TG CM) (wX2 cI a0 a1 a2 a3 a4 o.2.1 o.2.2 PS TC TW TG CM) (some (.int o.1)) := by
  refine Ct.of (cc := cX2_append) (maxL := 2) (ret := (some .int)) (by decide) rfl (Nat.le_of_ble_eq_true rfl) ?_
  intro p e s m args below meth c A F hP hD hS ls hl
  obtain ⟨hx, hb, hml, hr, hown, hts, hlk, hK, hA⟩ := F
  have hown : s.vm.findClass RX2 = some m.cls := hown
  have hl : lv_has ls 2 [(0, .ref a0), (1, .int x1)] := hl
  have hinX2 : ∀ w ∈ wsX20, w ∈ wsX2_append := by decide +kernel
  have hfl11 := hts (.fieldLink RX2 11 "CraneGuard$Text" "bytes" "[I") (by decide +kernel)
  have hfl15 := hts (.fieldLink RX2 15 "CraneGuard$Text" "length" "I") (by decide +kernel)
  unfold fX2_append at hf
  refine lv_aload_n hx hb dX2_append_0 rfl (lv_at hl 0 rfl) ?_
  refine va_get (D := D) (ci := 2) (v := .ref a1) (C := RX2) (T := TX2) (N := 7) hx hb hts hinX2 hown hK.1 hP 0 rfl rfl 0 (by decide) hfl11 (fun _ h9 => h9) rfl dX2_append_1 ?_
  refine lv_aload_n hx hb dX2_append_4 rfl (lv_at hl 0 rfl) ?_
  refine va_get (D := D) (ci := 2) (v := .int LN) (C := RX2) (T := TX2) (N := 7) hx hb hts hinX2 hown hK.1 hP 0 rfl rfl 1 (by decide) hfl15 (fun _ h9 => h9) rfl dX2_append_5 ?_
  refine lv_iload_n hx hb dX2_append_8 rfl (lv_at hl 1 rfl) ?_
  obtain ⟨v1, h2, hf⟩ := kBind hf
  refine kwr hx hb hK hP hD hS 1 rfl h2 (wX2 cI a0 a1 a2 a3 a4 v1 LN PS TC TW TG CM) rfl dX2_append_9 (fun H locs hP hD hS => ?_)
  refine lv_aload_n hx hb dX2_append_10 rfl (lv_at hl 0 rfl) ?_
  refine lv_dup hx hb dX2_append_11 rfl ?_
  refine va_get (D := D) (ci := 2) (v := .int LN) (C := RX2) (T := TX2) (N := 7) hx hb hts hinX2 hown hK.1 hP 0 rfl rfl 1 (by decide) hfl15 (fun _ h9 => h9) rfl dX2_append_12 ?_
  refine lv_iconst (v := (1 : Int32)) hx hb dX2_append_15 (by decide) ?_
  refine lv_iadd hx hb dX2_append_16 ?_
  refine va_put (D := D) (ci := 2) (v := .int (LN + (1 : Int32))) (ty := .int) (C := RX2) (T := TX2) (N := 7) hx hb hts hinX2 tyX2 tyX2_ok nmX2 hown hK.1 hP hD hS 0 rfl rfl 1 (by decide) hfl15 (fun _ h9 => h9) rfl (by decide +kernel) rfl rfl (Nat.le_of_ble_eq_true rfl) dX2_append_17 (fun H locs hP hD hS => ?_)
  have hP : va_P D vwCl (wX2 cI a0 a1 a2 a3 a4 v1 (LN + (1 : Int32)) PS TC TW TG CM) H := hP
  have hD : va_D A (wX2 cI a0 a1 a2 a3 a4 v1 (LN + (1 : Int32)) PS TC TW TG CM) := hD
  refine lv_aload_n hx hb dX2_append_20 rfl (lv_at hl 0 rfl) ?_
  refine va_get (D := D) (ci := 2) (v := .int (LN + (1 : Int32))) (C := RX2) (T := TX2) (N := 7) hx hb hts hinX2 hown hK.1 hP 0 rfl rfl 1 (by decide) hfl15 (fun _ h9 => h9) rfl dX2_append_21 ?_
  obtain ⟨z3, hz3⟩ : ∃ z : Int32, z = LN + (1 : Int32) := ⟨_, rfl⟩
  rw [← hz3] at hf
  rw [← hz3]
  have hP : va_P D vwCl (wX2 cI a0 a1 a2 a3 a4 v1 z3 PS TC TW TG CM) H := by rw [hz3]; exact hP
  have hD : va_D A (wX2 cI a0 a1 a2 a3 a4 v1 z3 PS TC TW TG CM) := by rw [hz3]; exact hD
  have he := Option.some.inj hf
  subst he
  exact kreti hx hb hr hlk hP hD hS dX2_append_24
set_option maxHeartbeats 4000000 in
set_option maxRecDepth 100000 in
theorem kX2_byteHere (l : Launch) (D : va_G) (cI : ClassId) (a0 a1 a2 a3 a4 : Nat) (TB : (Nat → Int32)) (LN : Int32) (PS : Int32) (TC : (Nat → Int32)) (TW : (Nat → Int32)) (TG : (Nat → Int32)) (CM : Int32) (o : Int32) (hf : fX2_byteHere TB LN PS = some o) : Ct l yX2_byteHere wsX2_byteHere { frames := 0, cells := 0, slots := 0, locals := 0 } D cI [.ref a0] (wX2 cI a0 a1 a2 a3 a4 TB LN PS TC TW TG CM) (wX2 cI a0 a1 a2 a3 a4 TB LN PS TC TW TG CM) (some (.int o)) := by
  refine Ct.of (cc := cX2_byteHere) (maxL := 1) (ret := (some .int)) (by decide) rfl (Nat.le_of_ble_eq_true rfl) ?_
  intro p e s m args below meth c A F hP hD hS ls hl
  obtain ⟨hx, hb, hml, hr, hown, hts, hlk, hK, hA⟩ := F
  have hown : s.vm.findClass RX2 = some m.cls := hown
  have hl : lv_has ls 1 [(0, .ref a0)] := hl
  have hinX2 : ∀ w ∈ wsX20, w ∈ wsX2_byteHere := by decide +kernel
  have hfl11 := hts (.fieldLink RX2 11 "CraneGuard$Text" "bytes" "[I") (by decide +kernel)
  have hfl15 := hts (.fieldLink RX2 15 "CraneGuard$Text" "length" "I") (by decide +kernel)
  have hfl19 := hts (.fieldLink RX2 19 "CraneGuard$Text" "position" "I") (by decide +kernel)
  unfold fX2_byteHere at hf
  refine lv_aload_n hx hb dX2_byteHere_0 rfl (lv_at hl 0 rfl) ?_
  refine va_get (D := D) (ci := 2) (v := .int PS) (C := RX2) (T := TX2) (N := 7) hx hb hts hinX2 hown hK.1 hP 0 rfl rfl 2 (by decide) hfl19 (fun _ h9 => h9) rfl dX2_byteHere_1 ?_
  refine lv_aload_n hx hb dX2_byteHere_4 rfl (lv_at hl 0 rfl) ?_
  refine va_get (D := D) (ci := 2) (v := .int LN) (C := RX2) (T := TX2) (N := 7) hx hb hts hinX2 hown hK.1 hP 0 rfl rfl 1 (by decide) hfl15 (fun _ h9 => h9) rfl dX2_byteHere_5 ?_
  refine lv_icmp_ge (tgt := 23) hx hb dX2_byteHere_8 (by decide) (fun c1 => ?_) (fun c1 => ?_)
  · have hf := kIfT c1 hf
    refine lv_iconst (v := (-1 : Int32)) hx hb dX2_byteHere_23 (by decide) ?_
    have he := Option.some.inj hf
    subst he
    exact kreti hx hb hr hlk hP hD hS dX2_byteHere_24
  · have hf := kIfF c1 hf
    refine lv_aload_n hx hb dX2_byteHere_11 rfl (lv_at hl 0 rfl) ?_
    refine va_get (D := D) (ci := 2) (v := .ref a1) (C := RX2) (T := TX2) (N := 7) hx hb hts hinX2 hown hK.1 hP 0 rfl rfl 0 (by decide) hfl11 (fun _ h9 => h9) rfl dX2_byteHere_12 ?_
    refine lv_aload_n hx hb dX2_byteHere_15 rfl (lv_at hl 0 rfl) ?_
    refine va_get (D := D) (ci := 2) (v := .int PS) (C := RX2) (T := TX2) (N := 7) hx hb hts hinX2 hown hK.1 hP 0 rfl rfl 2 (by decide) hfl19 (fun _ h9 => h9) rfl dX2_byteHere_16 ?_
    obtain ⟨v2, h3, hf⟩ := kBind hf
    refine krd hx hb hK hP 1 rfl h3 dX2_byteHere_19 ?_
    refine lv_goto (tgt := 24) hx hb dX2_byteHere_20 (by decide) ?_
    have he := Option.some.inj hf
    subst he
    exact kreti hx hb hr hlk hP hD hS dX2_byteHere_24
set_option maxHeartbeats 4000000 in
set_option maxRecDepth 100000 in
theorem kX2_carryOut (l : Launch) (D : va_G) (cI : ClassId) (fu : Nat) (a0 a1 a2 a3 a4 a5 a6 : Nat) (TB : (Nat → Int32)) (LN : Int32) (PS : Int32) (TC : (Nat → Int32)) (TW : (Nat → Int32)) (TG : (Nat → Int32)) (CM : Int32) (R : (Nat → Int32)) (o : (Nat → Int32)) (hf : fX2_carryOut fu TC TW TG CM R = some o) : Ct l yX2_carryOut wsX2_carryOut { frames := 3, cells := 0, slots := 0, locals := 68 } D cI [.ref a0, .ref a5] (wX2_X1 cI a0 a1 a2 a3 a4 a5 a6 TB LN PS TC TW TG CM R) (wX2_X1 cI a0 a1 a2 a3 a4 a5 a6 TB LN PS TC TW TG CM o) none := by
  refine Ct.of (cc := cX2_carryOut) (maxL := 3) (ret := none) (by decide) rfl (Nat.le_of_ble_eq_true rfl) ?_
  intro p e s m args below meth c A F hP hD hS ls hl
  obtain ⟨hx, hb, hml, hr, hown, hts, hlk, hK, hA⟩ := F
  have hown : s.vm.findClass RX2 = some m.cls := hown
  have hl : lv_has ls 3 [(0, .ref a0), (1, .ref a5)] := hl
  have hinX2 : ∀ w ∈ wsX20, w ∈ wsX2_carryOut := by decide +kernel
  have hfl22 := hts (.fieldLink RX2 22 "CraneGuard$Text" "craneOf" "[I") (by decide +kernel)
  have hfl25 := hts (.fieldLink RX2 25 "CraneGuard$Text" "wayOf" "[I") (by decide +kernel)
  have hfl28 := hts (.fieldLink RX2 28 "CraneGuard$Text" "targetOf" "[I") (by decide +kernel)
  have hfl31 := hts (.fieldLink RX2 31 "CraneGuard$Text" "commands" "I") (by decide +kernel)
  unfold fX2_carryOut at hf
  refine lv_iconst (v := (0 : Int32)) hx hb dX2_carryOut_0 (by decide) ?_
  refine lv_istore_n (lv' := [(2, .int (0 : Int32)), (0, .ref a0), (1, .ref a5)]) hx hb dX2_carryOut_1 rfl hl (by decide) rfl (fun ls hl => ?_)
  have hl : lv_has ls 3 [(2, .int (0 : Int32)), (0, .ref a0), (1, .ref a5)] := hl
  refine klp hf (fun t2 : (Nat → Int32) × Int32 => (wX2_X1 cI a0 a1 a2 a3 a4 a5 a6 TB LN PS TC TW TG CM t2.1)) 3 (fun t2 : (Nat → Int32) × Int32 => [(2, .int t2.2), (0, .ref a0), (1, .ref a5)]) ?_ hP hD hS hl
  intro t2 x2_ hf hI1 hO1 H locs ls hP hD hS hl
  unfold fX2_carryOut_L2 at hf
  have hP : va_P D vwCl (wX2_X1 cI a0 a1 a2 a3 a4 a5 a6 TB LN PS TC TW TG CM t2.1) H := hP
  have hD : va_D A (wX2_X1 cI a0 a1 a2 a3 a4 a5 a6 TB LN PS TC TW TG CM t2.1) := hD
  have hl : lv_has ls 3 [(2, .int t2.2), (0, .ref a0), (1, .ref a5)] := hl
  refine lv_iload_n hx hb dX2_carryOut_2 rfl (lv_at hl 0 rfl) ?_
  refine lv_aload_n hx hb dX2_carryOut_3 rfl (lv_at hl 1 rfl) ?_
  refine va_get (D := D) (ci := 2) (v := .int CM) (C := RX2) (T := TX2) (N := 7) hx hb hts hinX2 hown hK.1 hP 0 rfl rfl 6 (by decide) hfl31 (fun _ h9 => h9) rfl dX2_carryOut_4 ?_
  refine lv_icmp_ge (tgt := 39) hx hb dX2_carryOut_7 (by decide) (fun c11 => ?_) (fun c11 => ?_)
  · have hf := kIfT c11 hf
    have he := Option.some.inj hf
    have he := hO1 _ he.symm
    subst he
    exact kretv hx hb hr hlk hP hD hS dX2_carryOut_39
  · have hf := kIfF c11 hf
    refine lv_aload_n hx hb dX2_carryOut_10 rfl (lv_at hl 2 rfl) ?_
    refine lv_aload_n hx hb dX2_carryOut_11 rfl (lv_at hl 1 rfl) ?_
    refine va_get (D := D) (ci := 2) (v := .ref a2) (C := RX2) (T := TX2) (N := 7) hx hb hts hinX2 hown hK.1 hP 0 rfl rfl 3 (by decide) hfl22 (fun _ h9 => h9) rfl dX2_carryOut_12 ?_
    refine lv_iload_n hx hb dX2_carryOut_15 rfl (lv_at hl 0 rfl) ?_
    obtain ⟨v12, h13, hf⟩ := kBind hf
    refine krd hx hb hK hP 2 rfl h13 dX2_carryOut_16 ?_
    refine lv_aload_n hx hb dX2_carryOut_17 rfl (lv_at hl 1 rfl) ?_
    refine va_get (D := D) (ci := 2) (v := .ref a4) (C := RX2) (T := TX2) (N := 7) hx hb hts hinX2 hown hK.1 hP 0 rfl rfl 5 (by decide) hfl28 (fun _ h9 => h9) rfl dX2_carryOut_18 ?_
    refine lv_iload_n hx hb dX2_carryOut_21 rfl (lv_at hl 0 rfl) ?_
    obtain ⟨v14, h15, hf⟩ := kBind hf
    refine krd hx hb hK hP 4 rfl h15 dX2_carryOut_22 ?_
    refine lv_aload_n hx hb dX2_carryOut_23 rfl (lv_at hl 1 rfl) ?_
    refine va_get (D := D) (ci := 2) (v := .ref a3) (C := RX2) (T := TX2) (N := 7) hx hb hts hinX2 hown hK.1 hP 0 rfl rfl 4 (by decide) hfl25 (fun _ h9 => h9) rfl dX2_carryOut_24 ?_
    refine lv_iload_n hx hb dX2_carryOut_27 rfl (lv_at hl 0 rfl) ?_
    obtain ⟨v16, h17, hf⟩ := kBind hf
    refine krd hx hb hK hP 3 rfl h17 dX2_carryOut_28 ?_
    obtain ⟨v18, h19, hf⟩ := kBind hf
    refine kgoJ (wr := [(a0, .inr (2, [.ref a1, .int LN, .int PS, .ref a2, .ref a3, .ref a4, .int CM])), (a1, .inl (cI, 80, .inl TB)), (a2, .inl (cI, 20, .inl TC)), (a3, .inl (cI, 20, .inl TW)), (a4, .inl (cI, 20, .inl TG))]) (w2 := (wX2_X1 cI a0 a1 a2 a3 a4 a5 a6 TB LN PS TC TW TG CM v18.2)) (krunV (wc := (wX1 cI a5 a6 t2.1)) (As := [.int v12, .int v14, .int v16]) (rest := []) (ci := 1) hx hb hml hown hts hK (kX1_aim l D cI a5 a6 t2.1 v12 v14 v16 v18 h19) gX2_carryOut_X1_aim rfl rfl rfl hdX1_aim ⟨Nat.le_of_ble_eq_true rfl, Nat.le_of_ble_eq_true rfl⟩ (hP.sub [5, 6] rfl) (hD.sub [5, 6] (by decide) rfl) rfl rfl rfl rfl hl.1 rfl (Nat.le_of_ble_eq_true rfl) dX2_carryOut_29 ⟨Nat.zero_le _, Nat.zero_le _⟩) hP hD hS hA [5, 6] [0, 1, 2, 3, 4] [0, 1, 2, 3, 4, 5, 6] rfl rfl (by decide) (by decide) (by decide) rfl (fun H locs hP hD hS => ?_)
    refine lv_pop hx hb dX2_carryOut_32 rfl ?_
    refine lv_iinc (v := t2.2 + (1 : Int32)) (lv' := [(2, .int (t2.2 + (1 : Int32))), (0, .ref a0), (1, .ref a5)]) hx hb dX2_carryOut_33 hl (k := 0) rfl rfl (by decide) rfl (fun ls hl => ?_)
    refine lv_goto (tgt := 2) hx hb dX2_carryOut_36 (by decide) ?_
    obtain ⟨z20, hz20⟩ : ∃ z : Int32, z = t2.2 + (1 : Int32) := ⟨_, rfl⟩
    rw [← hz20] at hf
    have he := (Option.some.inj hf).symm
    have hl : lv_has ls 3 [(2, .int z20), (0, .ref a0), (1, .ref a5)] := by rw [hz20]; exact lv_sub hl [0, 1, 2] rfl
    exact hI1 _ he H locs ls hP hD hS hl
set_option maxHeartbeats 4000000 in
set_option maxRecDepth 100000 in
theorem kX2_empty (l : Launch) (D : va_G) (cI : ClassId) (a0 a1 a2 a3 a4 : Nat) (TB : (Nat → Int32)) (LN : Int32) (PS : Int32) (TC : (Nat → Int32)) (TW : (Nat → Int32)) (TG : (Nat → Int32)) (CM : Int32) (o : Int32 × Int32) (hf : fX2_empty LN = some o) : Ct l yX2_empty wsX2_empty { frames := 0, cells := 0, slots := 0, locals := 0 } D cI [.ref a0] (wX2 cI a0 a1 a2 a3 a4 TB LN PS TC TW TG CM) (wX2 cI a0 a1 a2 a3 a4 TB o.2 PS TC TW TG CM) (some (.int o.1)) := by
  refine Ct.of (cc := cX2_empty) (maxL := 2) (ret := (some .int)) (by decide) rfl (Nat.le_of_ble_eq_true rfl) ?_
  intro p e s m args below meth c A F hP hD hS ls hl
  obtain ⟨hx, hb, hml, hr, hown, hts, hlk, hK, hA⟩ := F
  have hown : s.vm.findClass RX2 = some m.cls := hown
  have hl : lv_has ls 2 [(0, .ref a0)] := hl
  have hinX2 : ∀ w ∈ wsX20, w ∈ wsX2_empty := by decide +kernel
  have hfl15 := hts (.fieldLink RX2 15 "CraneGuard$Text" "length" "I") (by decide +kernel)
  unfold fX2_empty at hf
  refine lv_aload_n hx hb dX2_empty_0 rfl (lv_at hl 0 rfl) ?_
  refine va_get (D := D) (ci := 2) (v := .int LN) (C := RX2) (T := TX2) (N := 7) hx hb hts hinX2 hown hK.1 hP 0 rfl rfl 1 (by decide) hfl15 (fun _ h9 => h9) rfl dX2_empty_1 ?_
  refine lv_istore_n (lv' := [(1, .int LN), (0, .ref a0)]) hx hb dX2_empty_4 rfl hl (by decide) rfl (fun ls hl => ?_)
  refine lv_aload_n hx hb dX2_empty_5 rfl (lv_at hl 1 rfl) ?_
  refine lv_iconst (v := (0 : Int32)) hx hb dX2_empty_6 (by decide) ?_
  refine va_put (D := D) (ci := 2) (v := .int (0 : Int32)) (ty := .int) (C := RX2) (T := TX2) (N := 7) hx hb hts hinX2 tyX2 tyX2_ok nmX2 hown hK.1 hP hD hS 0 rfl rfl 1 (by decide) hfl15 (fun _ h9 => h9) rfl (by decide +kernel) rfl rfl (Nat.le_of_ble_eq_true rfl) dX2_empty_7 (fun H locs hP hD hS => ?_)
  have hP : va_P D vwCl (wX2 cI a0 a1 a2 a3 a4 TB (0 : Int32) PS TC TW TG CM) H := hP
  have hD : va_D A (wX2 cI a0 a1 a2 a3 a4 TB (0 : Int32) PS TC TW TG CM) := hD
  refine lv_iload_n hx hb dX2_empty_10 rfl (lv_at hl 0 rfl) ?_
  have he := Option.some.inj hf
  subst he
  exact kreti hx hb hr hlk hP hD hS dX2_empty_11
set_option maxHeartbeats 4000000 in
set_option maxRecDepth 100000 in
theorem kX2_isFull (l : Launch) (D : va_G) (cI : ClassId) (a0 a1 a2 a3 a4 : Nat) (TB : (Nat → Int32)) (LN : Int32) (PS : Int32) (TC : (Nat → Int32)) (TW : (Nat → Int32)) (TG : (Nat → Int32)) (CM : Int32) (o : Bool) (hf : fX2_isFull LN = some o) : Ct l yX2_isFull wsX2_isFull { frames := 0, cells := 0, slots := 0, locals := 0 } D cI [.ref a0] (wX2 cI a0 a1 a2 a3 a4 TB LN PS TC TW TG CM) (wX2 cI a0 a1 a2 a3 a4 TB LN PS TC TW TG CM) (some (.int (bI o))) := by
  refine Ct.of (cc := cX2_isFull) (maxL := 1) (ret := (some .boolean)) (by decide) rfl (Nat.le_of_ble_eq_true rfl) ?_
  intro p e s m args below meth c A F hP hD hS ls hl
  obtain ⟨hx, hb, hml, hr, hown, hts, hlk, hK, hA⟩ := F
  have hown : s.vm.findClass RX2 = some m.cls := hown
  have hl : lv_has ls 1 [(0, .ref a0)] := hl
  have hinX2 : ∀ w ∈ wsX20, w ∈ wsX2_isFull := by decide +kernel
  have hfl15 := hts (.fieldLink RX2 15 "CraneGuard$Text" "length" "I") (by decide +kernel)
  unfold fX2_isFull at hf
  refine lv_aload_n hx hb dX2_isFull_0 rfl (lv_at hl 0 rfl) ?_
  refine va_get (D := D) (ci := 2) (v := .int LN) (C := RX2) (T := TX2) (N := 7) hx hb hts hinX2 hown hK.1 hP 0 rfl rfl 1 (by decide) hfl15 (fun _ h9 => h9) rfl dX2_isFull_1 ?_
  refine lv_bipush (v := (80 : Int32)) hx hb dX2_isFull_4 (by decide) ?_
  refine lv_icmp_lt (tgt := 13) hx hb dX2_isFull_6 (by decide) (fun c1 => ?_) (fun c1 => ?_)
  · have hf := kIfT c1 hf
    refine lv_iconst (v := (0 : Int32)) hx hb dX2_isFull_13 (by decide) ?_
    have he := Option.some.inj hf
    subst he
    exact kretz hx hb hr hlk hP hD hS dX2_isFull_14
  · have hf := kIfF c1 hf
    refine lv_iconst (v := (1 : Int32)) hx hb dX2_isFull_9 (by decide) ?_
    refine lv_goto (tgt := 14) hx hb dX2_isFull_10 (by decide) ?_
    have he := Option.some.inj hf
    subst he
    exact kretz hx hb hr hlk hP hD hS dX2_isFull_14
