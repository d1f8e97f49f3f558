set_option maxHeartbeats 4000000 in
set_option maxRecDepth 100000 in
theorem kX1_loadFrom (l : Launch) (D : va_G) (cI : ClassId) (a0 a1 a2 : Nat) (R : (Nat → Int32)) (HR : (Nat → Int32)) (x2 : Int32) (o : (Nat → Int32)) (hf : fX1_loadFrom R HR x2 = some o) : Ct l yX1_loadFrom wsX1_loadFrom { frames := 1, cells := 0, slots := 0, locals := 18 } D cI [.ref a0, .ref a2, .int x2] (wX1_A cI a0 a1 a2 R HR) (wX1_A cI a0 a1 a2 o HR) none := by
  refine Ct.of (cc := cX1_loadFrom) (maxL := 3) (ret := none) (by decide) rfl (Nat.le_of_ble_eq_true rfl) ?_
  intro p e s m args below meth c A F hP hD hS ls hl
  obtain ⟨hx, hb, hml, hr, hown, hts, hlk, hK, hA⟩ := F
  have hown : s.vm.findClass RX1 = some m.cls := hown
  have hl : lv_has ls 3 [(0, .ref a0), (1, .ref a2), (2, .int x2)] := hl
  have hinX1 : ∀ w ∈ wsX10, w ∈ wsX1_loadFrom := by decide +kernel
  have hfl11 := hts (.fieldLink RX1 11 "CraneGuard$Site" "row" "[I") (by decide +kernel)
  unfold fX1_loadFrom at hf
  refine lv_aload_n hx hb dX1_loadFrom_0 rfl (lv_at hl 1 rfl) ?_
  refine lv_iload_n hx hb dX1_loadFrom_1 rfl (lv_at hl 2 rfl) ?_
  refine lv_aload_n hx hb dX1_loadFrom_2 rfl (lv_at hl 0 rfl) ?_
  refine va_get (D := D) (ci := 1) (v := .ref a1) (C := RX1) (T := TX1) (N := 1) hx hb hts hinX1 hown hK.1 hP 0 rfl rfl 0 (by decide) hfl11 (fun _ h9 => h9) rfl dX1_loadFrom_3 ?_
  refine lv_iconst (v := (0 : Int32)) hx hb dX1_loadFrom_6 (by decide) ?_
  refine lv_sipush (v := (132 : Int32)) hx hb dX1_loadFrom_7 (by decide) ?_
  obtain ⟨v3, h4, hf⟩ := kBind hf
  refine kcp hx hb (hml.trans hl.1.symm) hown (hts (.methodLink RX1 15 arraycopyName) (by decide +kernel)) (hts (.native arraycopyName) (by decide +kernel)) (hts (.static arraycopyName) (by decide +kernel)) (hts (.initialized "java/lang/System") (by decide +kernel)) hK hP hD hS 2 1 rfl rfl h4 (wX1_A cI a0 a1 a2 v3 HR) rfl (Nat.le_of_ble_eq_true rfl) (Nat.le_of_ble_eq_true rfl) dX1_loadFrom_10 (fun H locs hP hD hS => ?_)
  have he := Option.some.inj hf
  subst he
  exact kretv hx hb hr hlk hP hD hS dX1_loadFrom_13
set_option maxHeartbeats 4000000 in
set_option maxRecDepth 100000 in
theorem kX0_restore (l : Launch) (D : va_G) (cI : ClassId) (a0 a1 a2 a3 : Nat) (HR : (Nat → Int32)) (HS : Int32) (HN : Int32) (R : (Nat → Int32)) (o : Int32 × Int32 × Int32 × (Nat → Int32)) (hf : fX0_restore HR HS HN R = some o) : Ct l yX0_restore wsX0_restore { frames := 2, cells := 0, slots := 0, locals := 40 } D cI [.ref a0, .ref a2] (wX0_X1 cI a0 a1 a2 a3 HR HS HN R) (wX0_X1 cI a0 a1 a2 a3 HR o.2.1 o.2.2.1 o.2.2.2) (some (.int o.1)) := by
  refine Ct.of (cc := cX0_restore) (maxL := 2) (ret := (some .int)) (by decide) rfl (Nat.le_of_ble_eq_true rfl) ?_
  intro p e s m args below meth c A F hP hD hS ls hl
  obtain ⟨hx, hb, hml, hr, hown, hts, hlk, hK, hA⟩ := F
  have hown : s.vm.findClass RX0 = some m.cls := hown
  have hl : lv_has ls 2 [(0, .ref a0), (1, .ref a2)] := hl
  have hinX0 : ∀ w ∈ wsX00, w ∈ wsX0_restore := by decide +kernel
  have hfl11 := hts (.fieldLink RX0 11 "CraneGuard$History" "rows" "[I") (by decide +kernel)
  have hfl15 := hts (.fieldLink RX0 15 "CraneGuard$History" "size" "I") (by decide +kernel)
  have hfl19 := hts (.fieldLink RX0 19 "CraneGuard$History" "next" "I") (by decide +kernel)
  unfold fX0_restore at hf
  refine lv_aload_n hx hb dX0_restore_0 rfl (lv_at hl 0 rfl) ?_
  refine lv_aload_n hx hb dX0_restore_1 rfl (lv_at hl 0 rfl) ?_
  refine va_get (D := D) (ci := 0) (v := .int HN) (C := RX0) (T := TX0) (N := 3) hx hb hts hinX0 hown hK.1 hP 0 rfl rfl 2 (by decide) hfl19 (fun _ h9 => h9) rfl dX0_restore_2 ?_
  refine lv_if_le (tgt := 17) hx hb dX0_restore_5 (by decide) (fun c9 => ?_) (fun c9 => ?_)
  · have hf := kIfT c9 hf
    refine lv_iconst (v := (4 : Int32)) hx hb dX0_restore_17 (by decide) ?_
    refine va_put (D := D) (ci := 0) (v := .int (4 : Int32)) (ty := .int) (C := RX0) (T := TX0) (N := 3) hx hb hts hinX0 tyX0 tyX0_ok nmX0 hown hK.1 hP hD hS 0 rfl rfl 2 (by decide) hfl19 (fun _ h9 => h9) rfl (by decide +kernel) rfl rfl (Nat.le_of_ble_eq_true rfl) dX0_restore_18 (fun H locs hP hD hS => ?_)
    have hP : va_P D vwCl (wX0_X1 cI a0 a1 a2 a3 HR HS (4 : Int32) R) H := hP
    have hD : va_D A (wX0_X1 cI a0 a1 a2 a3 HR HS (4 : Int32) R) := hD
    refine lv_aload_n hx hb dX0_restore_21 rfl (lv_at hl 0 rfl) ?_
    refine lv_dup hx hb dX0_restore_22 rfl ?_
    refine va_get (D := D) (ci := 0) (v := .int HS) (C := RX0) (T := TX0) (N := 3) hx hb hts hinX0 hown hK.1 hP 0 rfl rfl 1 (by decide) hfl15 (fun _ h9 => h9) rfl dX0_restore_23 ?_
    refine lv_iconst (v := (1 : Int32)) hx hb dX0_restore_26 (by decide) ?_
    refine lv_isub hx hb dX0_restore_27 ?_
    refine va_put (D := D) (ci := 0) (v := .int (HS - (1 : Int32))) (ty := .int) (C := RX0) (T := TX0) (N := 3) hx hb hts hinX0 tyX0 tyX0_ok nmX0 hown hK.1 hP hD hS 0 rfl rfl 1 (by decide) hfl15 (fun _ h9 => h9) rfl (by decide +kernel) rfl rfl (Nat.le_of_ble_eq_true rfl) dX0_restore_28 (fun H locs hP hD hS => ?_)
    have hP : va_P D vwCl (wX0_X1 cI a0 a1 a2 a3 HR (HS - (1 : Int32)) (4 : Int32) R) H := hP
    have hD : va_D A (wX0_X1 cI a0 a1 a2 a3 HR (HS - (1 : Int32)) (4 : Int32) R) := hD
    refine lv_aload_n hx hb dX0_restore_31 rfl (lv_at hl 1 rfl) ?_
    refine lv_aload_n hx hb dX0_restore_32 rfl (lv_at hl 0 rfl) ?_
    refine va_get (D := D) (ci := 0) (v := .ref a1) (C := RX0) (T := TX0) (N := 3) hx hb hts hinX0 hown hK.1 hP 0 rfl rfl 0 (by decide) hfl11 (fun _ h9 => h9) rfl dX0_restore_33 ?_
    refine lv_aload_n hx hb dX0_restore_36 rfl (lv_at hl 0 rfl) ?_
    refine va_get (D := D) (ci := 0) (v := .int (4 : Int32)) (C := RX0) (T := TX0) (N := 3) hx hb hts hinX0 hown hK.1 hP 0 rfl rfl 2 (by decide) hfl19 (fun _ h9 => h9) rfl dX0_restore_37 ?_
    refine lv_sipush (v := (132 : Int32)) hx hb dX0_restore_40 (by decide) ?_
    refine lv_imul hx hb dX0_restore_43 ?_
    obtain ⟨v10, h11, hf⟩ := kBind hf
    refine kgoJ (wr := [(a0, .inr (0, [.ref a1, .int (HS - (1 : Int32)), .int (4 : Int32)]))]) (w2 := (wX0_X1 cI a0 a1 a2 a3 HR (HS - (1 : Int32)) (4 : Int32) v10)) (krunV (wc := (wX1_A cI a2 a3 a1 R HR)) (As := [.ref a1, .int ((4 : Int32) * (132 : Int32))]) (rest := []) (ci := 1) hx hb hml hown hts hK (kX1_loadFrom l D cI a2 a3 a1 R HR ((4 : Int32) * (132 : Int32)) v10 h11) gX0_restore_X1_loadFrom rfl rfl rfl hdX1_loadFrom ⟨Nat.le_of_ble_eq_true rfl, Nat.le_of_ble_eq_true rfl⟩ (hP.sub [2, 3, 1] rfl) (hD.sub [2, 3, 1] (by decide) rfl) rfl rfl rfl rfl hl.1 rfl (Nat.le_of_ble_eq_true rfl) dX0_restore_44 ⟨Nat.zero_le _, Nat.zero_le _⟩) hP hD hS hA [2, 3, 1] [0] [0, 3, 1, 2] rfl rfl (by decide) (by decide) (by decide) rfl (fun H locs hP hD hS => ?_)
    refine lv_aload_n hx hb dX0_restore_47 rfl (lv_at hl 0 rfl) ?_
    refine va_get (D := D) (ci := 0) (v := .int (HS - (1 : Int32))) (C := RX0) (T := TX0) (N := 3) hx hb hts hinX0 hown hK.1 hP 0 rfl rfl 1 (by decide) hfl15 (fun _ h9 => h9) rfl dX0_restore_48 ?_
    obtain ⟨z12, hz12⟩ : ∃ z : Int32, z = HS - (1 : Int32) := ⟨_, rfl⟩
    rw [← hz12] at hf
    rw [← hz12]
    have hP : va_P D vwCl (wX0_X1 cI a0 a1 a2 a3 HR z12 (4 : Int32) v10) H := by rw [hz12]; exact hP
    have hD : va_D A (wX0_X1 cI a0 a1 a2 a3 HR z12 (4 : Int32) v10) := by rw [hz12]; exact hD
    have he := Option.some.inj hf
    subst he
    exact kreti hx hb hr hlk hP hD hS dX0_restore_51
  · have hf := kIfF c9 hf
    refine lv_aload_n hx hb dX0_restore_8 rfl (lv_at hl 0 rfl) ?_
    refine va_get (D := D) (ci := 0) (v := .int HN) (C := RX0) (T := TX0) (N := 3) hx hb hts hinX0 hown hK.1 hP 0 rfl rfl 2 (by decide) hfl19 (fun _ h9 => h9) rfl dX0_restore_9 ?_
    refine lv_iconst (v := (1 : Int32)) hx hb dX0_restore_12 (by decide) ?_
    refine lv_isub hx hb dX0_restore_13 ?_
    refine lv_goto (tgt := 18) hx hb dX0_restore_14 (by decide) ?_
    refine va_put (D := D) (ci := 0) (v := .int (HN - (1 : Int32))) (ty := .int) (C := RX0) (T := TX0) (N := 3) hx hb hts hinX0 tyX0 tyX0_ok nmX0 hown hK.1 hP hD hS 0 rfl rfl 2 (by decide) hfl19 (fun _ h9 => h9) rfl (by decide +kernel) rfl rfl (Nat.le_of_ble_eq_true rfl) dX0_restore_18 (fun H locs hP hD hS => ?_)
    have hP : va_P D vwCl (wX0_X1 cI a0 a1 a2 a3 HR HS (HN - (1 : Int32)) R) H := hP
    have hD : va_D A (wX0_X1 cI a0 a1 a2 a3 HR HS (HN - (1 : Int32)) R) := hD
    refine lv_aload_n hx hb dX0_restore_21 rfl (lv_at hl 0 rfl) ?_
    refine lv_dup hx hb dX0_restore_22 rfl ?_
    refine va_get (D := D) (ci := 0) (v := .int HS) (C := RX0) (T := TX0) (N := 3) hx hb hts hinX0 hown hK.1 hP 0 rfl rfl 1 (by decide) hfl15 (fun _ h9 => h9) rfl dX0_restore_23 ?_
    refine lv_iconst (v := (1 : Int32)) hx hb dX0_restore_26 (by decide) ?_
    refine lv_isub hx hb dX0_restore_27 ?_
    refine va_put (D := D) (ci := 0) (v := .int (HS - (1 : Int32))) (ty := .int) (C := RX0) (T := TX0) (N := 3) hx hb hts hinX0 tyX0 tyX0_ok nmX0 hown hK.1 hP hD hS 0 rfl rfl 1 (by decide) hfl15 (fun _ h9 => h9) rfl (by decide +kernel) rfl rfl (Nat.le_of_ble_eq_true rfl) dX0_restore_28 (fun H locs hP hD hS => ?_)
    have hP : va_P D vwCl (wX0_X1 cI a0 a1 a2 a3 HR (HS - (1 : Int32)) (HN - (1 : Int32)) R) H := hP
    have hD : va_D A (wX0_X1 cI a0 a1 a2 a3 HR (HS - (1 : Int32)) (HN - (1 : Int32)) R) := hD
    refine lv_aload_n hx hb dX0_restore_31 rfl (lv_at hl 1 rfl) ?_
    refine lv_aload_n hx hb dX0_restore_32 rfl (lv_at hl 0 rfl) ?_
    refine va_get (D := D) (ci := 0) (v := .ref a1) (C := RX0) (T := TX0) (N := 3) hx hb hts hinX0 hown hK.1 hP 0 rfl rfl 0 (by decide) hfl11 (fun _ h9 => h9) rfl dX0_restore_33 ?_
    refine lv_aload_n hx hb dX0_restore_36 rfl (lv_at hl 0 rfl) ?_
    refine va_get (D := D) (ci := 0) (v := .int (HN - (1 : Int32))) (C := RX0) (T := TX0) (N := 3) hx hb hts hinX0 hown hK.1 hP 0 rfl rfl 2 (by decide) hfl19 (fun _ h9 => h9) rfl dX0_restore_37 ?_
    refine lv_sipush (v := (132 : Int32)) hx hb dX0_restore_40 (by decide) ?_
    refine lv_imul hx hb dX0_restore_43 ?_
    obtain ⟨v13, h14, hf⟩ := kBind hf
    refine kgoJ (wr := [(a0, .inr (0, [.ref a1, .int (HS - (1 : Int32)), .int (HN - (1 : Int32))]))]) (w2 := (wX0_X1 cI a0 a1 a2 a3 HR (HS - (1 : Int32)) (HN - (1 : Int32)) v13)) (krunV (wc := (wX1_A cI a2 a3 a1 R HR)) (As := [.ref a1, .int ((HN - (1 : Int32)) * (132 : Int32))]) (rest := []) (ci := 1) hx hb hml hown hts hK (kX1_loadFrom l D cI a2 a3 a1 R HR ((HN - (1 : Int32)) * (132 : Int32)) v13 h14) gX0_restore_X1_loadFrom rfl rfl rfl hdX1_loadFrom ⟨Nat.le_of_ble_eq_true rfl, Nat.le_of_ble_eq_true rfl⟩ (hP.sub [2, 3, 1] rfl) (hD.sub [2, 3, 1] (by decide) rfl) rfl rfl rfl rfl hl.1 rfl (Nat.le_of_ble_eq_true rfl) dX0_restore_44 ⟨Nat.zero_le _, Nat.zero_le _⟩) hP hD hS hA [2, 3, 1] [0] [0, 3, 1, 2] rfl rfl (by decide) (by decide) (by decide) rfl (fun H locs hP hD hS => ?_)
    refine lv_aload_n hx hb dX0_restore_47 rfl (lv_at hl 0 rfl) ?_
    refine va_get (D := D) (ci := 0) (v := .int (HS - (1 : Int32))) (C := RX0) (T := TX0) (N := 3) hx hb hts hinX0 hown hK.1 hP 0 rfl rfl 1 (by decide) hfl15 (fun _ h9 => h9) rfl dX0_restore_48 ?_
    obtain ⟨z15, hz15⟩ : ∃ z : Int32, z = HS - (1 : Int32) := ⟨_, rfl⟩
    rw [← hz15] at hf
    obtain ⟨z16, hz16⟩ : ∃ z : Int32, z = HN - (1 : Int32) := ⟨_, rfl⟩
    rw [← hz16] at hf
    rw [← hz15]
    have hP : va_P D vwCl (wX0_X1 cI a0 a1 a2 a3 HR z15 z16 v13) H := by rw [hz15, hz16]; exact hP
    have hD : va_D A (wX0_X1 cI a0 a1 a2 a3 HR z15 z16 v13) := by rw [hz15, hz16]; exact hD
    have he := Option.some.inj hf
    subst he
    exact kreti hx hb hr hlk hP hD hS dX0_restore_51
set_option maxHeartbeats 4000000 in
set_option maxRecDepth 100000 in
theorem kX3_undo (l : Launch) (D : va_G) (cI : ClassId) (a0 a1 a2 a3 a4 a5 a6 a7 a8 a9 a10 a11 : Nat) (R : (Nat → Int32)) (R2 : (Nat → Int32)) (HR : (Nat → Int32)) (HS : Int32) (HN : Int32) (TB : (Nat → Int32)) (LN : Int32) (PS : Int32) (TC : (Nat → Int32)) (TW : (Nat → Int32)) (TG : (Nat → Int32)) (CM : Int32) (o : Int32 × (Nat → Int32) × Int32 × Int32) (hf : fX3_undo R HR HS HN = some o) : Ct l yX3_undo wsX3_undo { frames := 3, cells := 0, slots := 0, locals := 61 } D cI [.ref a0] (wX3 cI a0 a1 a2 a3 a4 a5 a6 a7 a8 a9 a10 a11 R R2 HR HS HN TB LN PS TC TW TG CM) (wX3 cI a0 a1 a2 a3 a4 a5 a6 a7 a8 a9 a10 a11 o.2.1 R2 HR o.2.2.1 o.2.2.2 TB LN PS TC TW TG CM) (some (.int o.1)) := by
  refine Ct.of (cc := cX3_undo) (maxL := 1) (ret := (some .int)) (by decide) rfl (Nat.le_of_ble_eq_true rfl) ?_
  intro p e s m args below meth c A F hP hD hS ls hl
  obtain ⟨hx, hb, hml, hr, hown, hts, hlk, hK, hA⟩ := F
  have hown : s.vm.findClass RX3 = some m.cls := hown
  have hl : lv_has ls 1 [(0, .ref a0)] := hl
  have hinX3 : ∀ w ∈ wsX30, w ∈ wsX3_undo := by decide +kernel
  have hfl10 := hts (.fieldLink RX3 10 "CraneGuard" "site" "LCraneGuard$Site;") (by decide +kernel)
  have hfl22 := hts (.fieldLink RX3 22 "CraneGuard" "history" "LCraneGuard$History;") (by decide +kernel)
  unfold fX3_undo at hf
  refine lv_aload_n hx hb dX3_undo_0 rfl (lv_at hl 0 rfl) ?_
  refine va_get (D := D) (ci := 3) (v := .ref a5) (C := RX3) (T := TX3) (N := 4) hx hb hts hinX3 hown hK.1 hP 0 rfl rfl 2 (by decide) hfl22 (fun _ h9 => h9) rfl dX3_undo_1 ?_
  obtain ⟨v6, h7, hf⟩ := kBind hf
  refine kgoR (krunV (wc := (wX0 cI a5 a6 HR HS HN)) (As := []) (rest := []) (ci := 0) hx hb hml hown hts hK (kX0_isEmpty l D cI a5 a6 HR HS HN v6 h7) gX3_undo_X0_isEmpty rfl rfl rfl hdX0_isEmpty ⟨Nat.le_of_ble_eq_true rfl, Nat.le_of_ble_eq_true rfl⟩ (hP.sub [5, 6] rfl) (hD.sub [5, 6] (by decide) rfl) rfl rfl rfl rfl hl.1 rfl (Nat.le_of_ble_eq_true rfl) dX3_undo_4 ⟨Nat.zero_le _, Nat.zero_le _⟩) hP hD hS hA [5, 6] rfl (fun H locs hP hS => ?_)
  refine kif_eqb (tgt := 13) hx hb dX3_undo_7 (by decide) (fun c8 => ?_) (fun c8 => ?_)
  · have hf := kIfF c8 hf
    refine lv_aload_n hx hb dX3_undo_13 rfl (lv_at hl 0 rfl) ?_
    refine va_get (D := D) (ci := 3) (v := .ref a5) (C := RX3) (T := TX3) (N := 4) hx hb hts hinX3 hown hK.1 hP 0 rfl rfl 2 (by decide) hfl22 (fun _ h9 => h9) rfl dX3_undo_14 ?_
    refine lv_aload_n hx hb dX3_undo_17 rfl (lv_at hl 0 rfl) ?_
    refine va_get (D := D) (ci := 3) (v := .ref a1) (C := RX3) (T := TX3) (N := 4) hx hb hts hinX3 hown hK.1 hP 0 rfl rfl 0 (by decide) hfl10 (fun _ h9 => h9) rfl dX3_undo_18 ?_
    obtain ⟨v9, h10, hf⟩ := kBind hf
    refine kgoJ (wr := [(a0, .inr (3, [.ref a1, .ref a3, .ref a5, .ref a7])), (a3, .inr (1, [.ref a4])), (a4, .inl (cI, 132, .inl R2)), (a7, .inr (2, [.ref a8, .int LN, .int PS, .ref a9, .ref a10, .ref a11, .int CM])), (a8, .inl (cI, 80, .inl TB)), (a9, .inl (cI, 20, .inl TC)), (a10, .inl (cI, 20, .inl TW)), (a11, .inl (cI, 20, .inl TG))]) (w2 := (wX3 cI a0 a1 a2 a3 a4 a5 a6 a7 a8 a9 a10 a11 v9.2.2.2 R2 HR v9.2.1 v9.2.2.1 TB LN PS TC TW TG CM)) (krunV (wc := (wX0_X1 cI a5 a6 a1 a2 HR HS HN R)) (As := [.ref a1]) (rest := []) (ci := 0) hx hb hml hown hts hK (kX0_restore l D cI a5 a6 a1 a2 HR HS HN R v9 h10) gX3_undo_X0_restore rfl rfl rfl hdX0_restore ⟨Nat.le_of_ble_eq_true rfl, Nat.le_of_ble_eq_true rfl⟩ (hP.sub [5, 6, 1, 2] rfl) (hD.sub [5, 6, 1, 2] (by decide) rfl) rfl rfl rfl rfl hl.1 rfl (Nat.le_of_ble_eq_true rfl) dX3_undo_21 ⟨Nat.zero_le _, Nat.zero_le _⟩) hP hD hS hA [5, 6, 1, 2] [0, 3, 4, 7, 8, 9, 10, 11] [0, 10, 11, 1, 2, 8, 9, 3, 4, 5, 6, 7] rfl rfl (by decide) (by decide) (by decide) rfl (fun H locs hP hD hS => ?_)
    have he := Option.some.inj hf
    subst he
    exact kreti hx hb hr hlk hP hD hS dX3_undo_24
  · have hf := kIfT c8 hf
    refine lv_bipush (v := (-103 : Int32)) hx hb dX3_undo_10 (by decide) ?_
    have he := Option.some.inj hf
    subst he
    exact kreti hx hb hr hlk hP hD hS dX3_undo_12
set_option maxHeartbeats 4000000 in
set_option maxRecDepth 100000 in
theorem kL_isForetold (l : Launch) (D : va_G) (cI : ClassId) (fu : Nat) (a0 a1 a2 a3 a4 a5 a6 a7 a8 a9 a10 a11 : Nat) (R : (Nat → Int32)) (R2 : (Nat → Int32)) (HR : (Nat → Int32)) (HS : Int32) (HN : Int32) (TB : (Nat → Int32)) (LN : Int32) (PS : Int32) (TC : (Nat → Int32)) (TW : (Nat → Int32)) (TG : (Nat → Int32)) (CM : Int32) (x1 : Int32) (o : Bool × (Nat → Int32) × (Nat → Int32) × (Nat → Int32) × Int32 × Int32) (hf : fL_isForetold fu R R2 HR HS HN x1 = some o) : Ct l yL_isForetold wsL_isForetold { frames := 7, cells := 0, slots := 0, locals := 162 } D cI [.ref a0, .int x1] (wX3 cI a0 a1 a2 a3 a4 a5 a6 a7 a8 a9 a10 a11 R R2 HR HS HN TB LN PS TC TW TG CM) (wX3 cI a0 a1 a2 a3 a4 a5 a6 a7 a8 a9 a10 a11 o.2.1 o.2.2.1 o.2.2.2.1 o.2.2.2.2.1 o.2.2.2.2.2 TB LN PS TC TW TG CM) (some (.int (bI o.1))) := by
  refine Ct.of (cc := cL_isForetold) (maxL := 12) (ret := (some .boolean)) (by decide) rfl (Nat.le_of_ble_eq_true rfl) ?_
  intro p e s m args below meth c A F hP hD hS ls hl
  obtain ⟨hx, hb, hml, hr, hown, hts, hlk, hK, hA⟩ := F
  have hown : s.vm.findClass RL = some m.cls := hown
  have hl : lv_has ls 12 [(0, .ref a0), (1, .int x1)] := hl
  unfold fL_isForetold at hf
  refine kcut (D := D) (A := A) (fun K => ∀ (R : (Nat → Int32)) (R2 : (Nat → Int32)) (HR : (Nat → Int32)) (HS : Int32) (HN : Int32) (y5 : Int32) (y4 : Int32) (y2 : Int64) (y1 : Int32), fL_isForetold_J117 fu R R2 HR HS HN y4 y2 y1 = some o → K (wX3 cI a0 a1 a2 a3 a4 a5 a6 a7 a8 a9 a10 a11 R R2 HR HS HN TB LN PS TC TW TG CM) 12 [(5, .int y5), (4, .int y4), (2, .long y2), (0, .ref a0), (1, .int y1)] 117) ?_ (fun hJ117 => ?_)
  · intro R R2 HR HS HN y5 y4 y2 y1 hf H locs ls hP hD hS hl
    unfold fL_isForetold_J117 at hf
    have hP : va_P D vwCl (wX3 cI a0 a1 a2 a3 a4 a5 a6 a7 a8 a9 a10 a11 R R2 HR HS HN TB LN PS TC TW TG CM) H := hP
    have hD : va_D A (wX3 cI a0 a1 a2 a3 a4 a5 a6 a7 a8 a9 a10 a11 R R2 HR HS HN TB LN PS TC TW TG CM) := hD
    have hl : lv_has ls 12 [(5, .int y5), (4, .int y4), (2, .long y2), (0, .ref a0), (1, .int y1)] := hl
    refine lv_aload_n hx hb dL_isForetold_117 rfl (lv_at hl 3 rfl) ?_
    obtain ⟨v188, h189, hf⟩ := kBind hf
    refine kgoA (krunV (wc := (wX3 cI a0 a1 a2 a3 a4 a5 a6 a7 a8 a9 a10 a11 R R2 HR HS HN TB LN PS TC TW TG CM)) (As := []) (rest := []) (ci := 3) hx hb hml hown hts hK (kX3_allDone l D cI fu a0 a1 a2 a3 a4 a5 a6 a7 a8 a9 a10 a11 R R2 HR HS HN TB LN PS TC TW TG CM v188 h189) gL_isForetold_X3_allDone rfl rfl rfl hdX3_allDone ⟨Nat.le_of_ble_eq_true rfl, Nat.le_of_ble_eq_true rfl⟩ hP hD rfl rfl rfl rfl hl.1 rfl (Nat.le_of_ble_eq_true rfl) dL_isForetold_118 ⟨Nat.zero_le _, Nat.zero_le _⟩) hD hS hA (fun H locs hP hD hS => ?_)
    refine lv_iload hx hb dL_isForetold_121 (lv_at hl 1 rfl) ?_
    refine lv_icmp_eq (tgt := 128) hx hb dL_isForetold_123 (by decide) (fun c190 => ?_) (fun c190 => ?_)
    · have hf := kIfT c190 hf
      refine lv_iconst (v := (0 : Int32)) hx hb dL_isForetold_128 (by decide) ?_
      refine lv_istore (lv' := [(5, .int (0 : Int32)), (4, .int y4), (2, .long y2), (0, .ref a0), (1, .int y1)]) hx hb dL_isForetold_129 hl (by decide) rfl (fun ls hl => ?_)
      have hl : lv_has ls 12 [(5, .int (0 : Int32)), (4, .int y4), (2, .long y2), (0, .ref a0), (1, .int y1)] := hl
      refine klp hf (fun t131 : (Nat → Int32) × (Nat → Int32) × (Nat → Int32) × Int32 × Int32 × Int32 => (wX3 cI a0 a1 a2 a3 a4 a5 a6 a7 a8 a9 a10 a11 t131.1 t131.2.1 t131.2.2.1 t131.2.2.2.1 t131.2.2.2.2.1 TB LN PS TC TW TG CM)) 12 (fun t131 : (Nat → Int32) × (Nat → Int32) × (Nat → Int32) × Int32 × Int32 × Int32 => [(5, .int t131.2.2.2.2.2), (4, .int y4), (2, .long y2), (0, .ref a0), (1, .int y1)]) ?_ hP hD hS hl
      intro t131 x131_ hf hI1 hO1 H locs ls hP hD hS hl
      unfold fL_isForetold_L131 at hf
      refine kcut (D := D) (A := A) (fun K => ∀ (R : (Nat → Int32)) (R2 : (Nat → Int32)) (HR : (Nat → Int32)) (HS : Int32) (HN : Int32) (y11 : Int32) (y10 : Int32) (y9 : Int32) (y8 : Int32) (y7 : Int32) (y6 : Int32) (y5 : Int32), fL_isForetold_J315 fu R R2 HR HS HN y5 y2 = some x131_ → K (wX3 cI a0 a1 a2 a3 a4 a5 a6 a7 a8 a9 a10 a11 R R2 HR HS HN TB LN PS TC TW TG CM) 12 [(11, .int y11), (10, .int y10), (9, .int y9), (8, .int y8), (7, .int y7), (6, .int y6), (5, .int y5), (4, .int y4), (2, .long y2), (0, .ref a0), (1, .int y1)] 315) ?_ (fun hJ315 => ?_)
      · intro R R2 HR HS HN y11 y10 y9 y8 y7 y6 y5 hf H locs ls hP hD hS hl
        unfold fL_isForetold_J315 at hf
        have hP : va_P D vwCl (wX3 cI a0 a1 a2 a3 a4 a5 a6 a7 a8 a9 a10 a11 R R2 HR HS HN TB LN PS TC TW TG CM) H := hP
        have hD : va_D A (wX3 cI a0 a1 a2 a3 a4 a5 a6 a7 a8 a9 a10 a11 R R2 HR HS HN TB LN PS TC TW TG CM) := hD
        have hl : lv_has ls 12 [(11, .int y11), (10, .int y10), (9, .int y9), (8, .int y8), (7, .int y7), (6, .int y6), (5, .int y5), (4, .int y4), (2, .long y2), (0, .ref a0), (1, .int y1)] := hl
        refine lv_aload_n hx hb dL_isForetold_315 rfl (lv_at hl 9 rfl) ?_
        obtain ⟨v191, h192, hf⟩ := kBind hf
        refine kgoA (krunV (wc := (wX3 cI a0 a1 a2 a3 a4 a5 a6 a7 a8 a9 a10 a11 R R2 HR HS HN TB LN PS TC TW TG CM)) (As := []) (rest := []) (ci := 3) hx hb hml hown hts hK (kX3_undo l D cI a0 a1 a2 a3 a4 a5 a6 a7 a8 a9 a10 a11 R R2 HR HS HN TB LN PS TC TW TG CM v191 h192) gL_isForetold_X3_undo rfl rfl rfl hdX3_undo ⟨Nat.le_of_ble_eq_true rfl, Nat.le_of_ble_eq_true rfl⟩ hP hD rfl rfl rfl rfl hl.1 rfl (Nat.le_of_ble_eq_true rfl) dL_isForetold_316 ⟨Nat.zero_le _, Nat.zero_le _⟩) hD hS hA (fun H locs hP hD hS => ?_)
        refine lv_if_lt (tgt := 331) hx hb dL_isForetold_319 (by decide) (fun c193 => ?_) (fun c193 => ?_)
        · have hf := kIfT c193 hf
          refine lv_iconst (v := (0 : Int32)) hx hb dL_isForetold_331 (by decide) ?_
          have he := Option.some.inj hf
          have he := hO1 _ he.symm
          subst he
          exact kretz hx hb hr hlk hP hD hS dL_isForetold_332
        · have hf := kIfF c193 hf
          refine lv_aload_n hx hb dL_isForetold_322 rfl (lv_at hl 9 rfl) ?_
          obtain ⟨v194, h195, hf⟩ := kBind hf
          refine kgoR (krunV (wc := (wX3 cI a0 a1 a2 a3 a4 a5 a6 a7 a8 a9 a10 a11 v191.2.1 R2 HR v191.2.2.1 v191.2.2.2 TB LN PS TC TW TG CM)) (As := []) (rest := []) (ci := 3) hx hb hml hown hts hK (kX3_digest l D cI fu a0 a1 a2 a3 a4 a5 a6 a7 a8 a9 a10 a11 v191.2.1 R2 HR v191.2.2.1 v191.2.2.2 TB LN PS TC TW TG CM v194 h195) gL_isForetold_X3_digest rfl rfl rfl hdX3_digest ⟨Nat.le_of_ble_eq_true rfl, Nat.le_of_ble_eq_true rfl⟩ hP hD rfl rfl rfl rfl hl.1 rfl (Nat.le_of_ble_eq_true rfl) dL_isForetold_323 ⟨Nat.zero_le _, Nat.zero_le _⟩) hP hD hS hA [0, 1, 2, 3, 4, 5, 6, 7, 8, 9, 10, 11] rfl (fun H locs hP hS => ?_)
          refine lv_lload_n hx hb dL_isForetold_326 rfl (lv_at hl 8 rfl) ?_
          refine W.lcmp hx hb dL_isForetold_327 ?_
          refine lv_if_eq (tgt := 333) hx hb dL_isForetold_328 (by decide) (fun c196 => ?_) (fun c196 => ?_)
          · have hf := kIfT c196 hf
            refine lv_iinc (v := y5 + (1 : Int32)) (lv' := [(5, .int (y5 + (1 : Int32))), (11, .int y11), (10, .int y10), (9, .int y9), (8, .int y8), (7, .int y7), (6, .int y6), (4, .int y4), (2, .long y2), (0, .ref a0), (1, .int y1)]) hx hb dL_isForetold_333 hl (k := 6) rfl rfl (by decide) rfl (fun ls hl => ?_)
            refine lv_goto (tgt := 131) hx hb dL_isForetold_336 (by decide) ?_
            obtain ⟨z197, hz197⟩ : ∃ z : Int32, z = y5 + (1 : Int32) := ⟨_, rfl⟩
            rw [← hz197] at hf
            have he := (Option.some.inj hf).symm
            have hl : lv_has ls 12 [(5, .int z197), (4, .int y4), (2, .long y2), (0, .ref a0), (1, .int y1)] := by rw [hz197]; exact lv_sub hl [0, 7, 8, 9, 10] rfl
            exact hI1 _ he H locs ls hP hD hS hl
          · have hf := kIfF c196 hf
            refine lv_iconst (v := (0 : Int32)) hx hb dL_isForetold_331 (by decide) ?_
            have he := Option.some.inj hf
            have he := hO1 _ he.symm
            subst he
            exact kretz hx hb hr hlk hP hD hS dL_isForetold_332
      refine kcut (D := D) (A := A) (fun K => ∀ (R : (Nat → Int32)) (R2 : (Nat → Int32)) (HR : (Nat → Int32)) (HS : Int32) (HN : Int32) (y11 : Int32) (y10 : Int32) (y9 : Int32) (y8 : Int32) (y7 : Int32) (y6 : Int32) (y5 : Int32), fL_isForetold_J277 fu R R2 HR HS HN y10 y9 y5 y2 = some x131_ → K (wX3 cI a0 a1 a2 a3 a4 a5 a6 a7 a8 a9 a10 a11 R R2 HR HS HN TB LN PS TC TW TG CM) 12 [(11, .int y11), (10, .int y10), (9, .int y9), (8, .int y8), (7, .int y7), (6, .int y6), (5, .int y5), (4, .int y4), (2, .long y2), (0, .ref a0), (1, .int y1)] 277) ?_ (fun hJ277 => ?_)
      · intro R R2 HR HS HN y11 y10 y9 y8 y7 y6 y5 hf H locs ls hP hD hS hl
        unfold fL_isForetold_J277 at hf
        have hP : va_P D vwCl (wX3 cI a0 a1 a2 a3 a4 a5 a6 a7 a8 a9 a10 a11 R R2 HR HS HN TB LN PS TC TW TG CM) H := hP
        have hD : va_D A (wX3 cI a0 a1 a2 a3 a4 a5 a6 a7 a8 a9 a10 a11 R R2 HR HS HN TB LN PS TC TW TG CM) := hD
        have hl : lv_has ls 12 [(11, .int y11), (10, .int y10), (9, .int y9), (8, .int y8), (7, .int y7), (6, .int y6), (5, .int y5), (4, .int y4), (2, .long y2), (0, .ref a0), (1, .int y1)] := hl
        refine lv_aload_n hx hb dL_isForetold_277 rfl (lv_at hl 9 rfl) ?_
        refine lv_iload hx hb dL_isForetold_278 (lv_at hl 6 rfl) ?_
        refine lv_bipush (v := (7 : Int32)) hx hb dL_isForetold_280 (by decide) ?_
        obtain ⟨v198, h199, hf⟩ := kBind hf
        refine kgoR (krunV (wc := (wX3 cI a0 a1 a2 a3 a4 a5 a6 a7 a8 a9 a10 a11 R R2 HR HS HN TB LN PS TC TW TG CM)) (As := [.int y5, .int (7 : Int32)]) (rest := []) (ci := 3) hx hb hml hown hts hK (kX3_crane l D cI fu a0 a1 a2 a3 a4 a5 a6 a7 a8 a9 a10 a11 R R2 HR HS HN TB LN PS TC TW TG CM y5 (7 : Int32) v198 h199) gL_isForetold_X3_crane rfl rfl rfl hdX3_crane ⟨Nat.le_of_ble_eq_true rfl, Nat.le_of_ble_eq_true rfl⟩ hP hD rfl rfl rfl rfl hl.1 rfl (Nat.le_of_ble_eq_true rfl) dL_isForetold_282 ⟨Nat.zero_le _, Nat.zero_le _⟩) hP hD hS hA [0, 1, 2, 3, 4, 5, 6, 7, 8, 9, 10, 11] rfl (fun H locs hP hS => ?_)
        refine lv_if_ne (tgt := 315) hx hb dL_isForetold_285 (by decide) (fun c200 => ?_) (fun c200 => ?_)
        · have hf := kIfF c200 hf
          exact hJ315 R R2 HR HS HN y11 y10 y9 y8 y7 y6 y5 hf H locs ls hP hD hS (lv_sub hl [0, 1, 2, 3, 4, 5, 6, 7, 8, 9, 10] rfl)
        · have hf := kIfT c200 hf
          refine lv_aload_n hx hb dL_isForetold_288 rfl (lv_at hl 9 rfl) ?_
          refine lv_iload hx hb dL_isForetold_289 (lv_at hl 6 rfl) ?_
          refine lv_bipush (v := (9 : Int32)) hx hb dL_isForetold_291 (by decide) ?_
          obtain ⟨v201, h202, hf⟩ := kBind hf
          refine kgoR (krunV (wc := (wX3 cI a0 a1 a2 a3 a4 a5 a6 a7 a8 a9 a10 a11 R R2 HR HS HN TB LN PS TC TW TG CM)) (As := [.int y5, .int (9 : Int32)]) (rest := []) (ci := 3) hx hb hml hown hts hK (kX3_crane l D cI fu a0 a1 a2 a3 a4 a5 a6 a7 a8 a9 a10 a11 R R2 HR HS HN TB LN PS TC TW TG CM y5 (9 : Int32) v201 h202) gL_isForetold_X3_crane rfl rfl rfl hdX3_crane ⟨Nat.le_of_ble_eq_true rfl, Nat.le_of_ble_eq_true rfl⟩ hP hD rfl rfl rfl rfl hl.1 rfl (Nat.le_of_ble_eq_true rfl) dL_isForetold_293 ⟨Nat.zero_le _, Nat.zero_le _⟩) hP hD hS hA [0, 1, 2, 3, 4, 5, 6, 7, 8, 9, 10, 11] rfl (fun H locs hP hS => ?_)
          refine lv_iload hx hb dL_isForetold_296 (lv_at hl 1 rfl) ?_
          refine lv_icmp_ne (tgt := 315) hx hb dL_isForetold_298 (by decide) (fun c203 => ?_) (fun c203 => ?_)
          · have hf := kIfF c203 hf
            exact hJ315 R R2 HR HS HN y11 y10 y9 y8 y7 y6 y5 hf H locs ls hP hD hS (lv_sub hl [0, 1, 2, 3, 4, 5, 6, 7, 8, 9, 10] rfl)
          · have hf := kIfT c203 hf
            refine lv_aload_n hx hb dL_isForetold_301 rfl (lv_at hl 9 rfl) ?_
            refine lv_iload hx hb dL_isForetold_302 (lv_at hl 6 rfl) ?_
            refine lv_iconst (v := (0 : Int32)) hx hb dL_isForetold_304 (by decide) ?_
            obtain ⟨v204, h205, hf⟩ := kBind hf
            refine kgoR (krunV (wc := (wX3 cI a0 a1 a2 a3 a4 a5 a6 a7 a8 a9 a10 a11 R R2 HR HS HN TB LN PS TC TW TG CM)) (As := [.int y5, .int (0 : Int32)]) (rest := []) (ci := 3) hx hb hml hown hts hK (kX3_crane l D cI fu a0 a1 a2 a3 a4 a5 a6 a7 a8 a9 a10 a11 R R2 HR HS HN TB LN PS TC TW TG CM y5 (0 : Int32) v204 h205) gL_isForetold_X3_crane rfl rfl rfl hdX3_crane ⟨Nat.le_of_ble_eq_true rfl, Nat.le_of_ble_eq_true rfl⟩ hP hD rfl rfl rfl rfl hl.1 rfl (Nat.le_of_ble_eq_true rfl) dL_isForetold_305 ⟨Nat.zero_le _, Nat.zero_le _⟩) hP hD hS hA [0, 1, 2, 3, 4, 5, 6, 7, 8, 9, 10, 11] rfl (fun H locs hP hS => ?_)
            refine lv_iload hx hb dL_isForetold_308 (lv_at hl 2 rfl) ?_
            refine lv_icmp_eq (tgt := 315) hx hb dL_isForetold_310 (by decide) (fun c206 => ?_) (fun c206 => ?_)
            · have hf := kIfT c206 hf
              exact hJ315 R R2 HR HS HN y11 y10 y9 y8 y7 y6 y5 hf H locs ls hP hD hS (lv_sub hl [0, 1, 2, 3, 4, 5, 6, 7, 8, 9, 10] rfl)
            · have hf := kIfF c206 hf
              refine lv_iconst (v := (0 : Int32)) hx hb dL_isForetold_313 (by decide) ?_
              have he := Option.some.inj hf
              have he := hO1 _ he.symm
              subst he
              exact kretz hx hb hr hlk hP hD hS dL_isForetold_314
      have hP : va_P D vwCl (wX3 cI a0 a1 a2 a3 a4 a5 a6 a7 a8 a9 a10 a11 t131.1 t131.2.1 t131.2.2.1 t131.2.2.2.1 t131.2.2.2.2.1 TB LN PS TC TW TG CM) H := hP
      have hD : va_D A (wX3 cI a0 a1 a2 a3 a4 a5 a6 a7 a8 a9 a10 a11 t131.1 t131.2.1 t131.2.2.1 t131.2.2.2.1 t131.2.2.2.2.1 TB LN PS TC TW TG CM) := hD
      have hl : lv_has ls 12 [(5, .int t131.2.2.2.2.2), (4, .int y4), (2, .long y2), (0, .ref a0), (1, .int y1)] := hl
      refine lv_iload hx hb dL_isForetold_131 (lv_at hl 0 rfl) ?_
      refine lv_aload_n hx hb dL_isForetold_133 rfl (lv_at hl 3 rfl) ?_
      obtain ⟨v207, h208, hf⟩ := kBind hf
      refine kgoR (krunV (wc := (wX3 cI a0 a1 a2 a3 a4 a5 a6 a7 a8 a9 a10 a11 t131.1 t131.2.1 t131.2.2.1 t131.2.2.2.1 t131.2.2.2.2.1 TB LN PS TC TW TG CM)) (As := []) (rest := [.int t131.2.2.2.2.2]) (ci := 3) hx hb hml hown hts hK (kX3_cranes l D cI a0 a1 a2 a3 a4 a5 a6 a7 a8 a9 a10 a11 t131.1 t131.2.1 t131.2.2.1 t131.2.2.2.1 t131.2.2.2.2.1 TB LN PS TC TW TG CM v207 h208) gL_isForetold_X3_cranes rfl rfl rfl hdX3_cranes ⟨Nat.le_of_ble_eq_true rfl, Nat.le_of_ble_eq_true rfl⟩ hP hD rfl rfl rfl rfl hl.1 rfl (Nat.le_of_ble_eq_true rfl) dL_isForetold_134 ⟨Nat.zero_le _, Nat.zero_le _⟩) hP hD hS hA [0, 1, 2, 3, 4, 5, 6, 7, 8, 9, 10, 11] rfl (fun H locs hP hS => ?_)
      refine lv_icmp_ge (tgt := 339) hx hb dL_isForetold_137 (by decide) (fun c209 => ?_) (fun c209 => ?_)
      · have hf := kIfT c209 hf
        refine lv_iconst (v := (1 : Int32)) hx hb dL_isForetold_339 (by decide) ?_
        have he := Option.some.inj hf
        have he := hO1 _ he.symm
        subst he
        exact kretz hx hb hr hlk hP hD hS dL_isForetold_340
      · have hf := kIfF c209 hf
        refine lv_aload_n hx hb dL_isForetold_140 rfl (lv_at hl 3 rfl) ?_
        refine lv_iload hx hb dL_isForetold_141 (lv_at hl 0 rfl) ?_
        refine lv_iload_n hx hb dL_isForetold_143 rfl (lv_at hl 4 rfl) ?_
        obtain ⟨v210, h211, hf⟩ := kBind hf
        refine kgoA (krunV (wc := (wX3 cI a0 a1 a2 a3 a4 a5 a6 a7 a8 a9 a10 a11 t131.1 t131.2.1 t131.2.2.1 t131.2.2.2.1 t131.2.2.2.2.1 TB LN PS TC TW TG CM)) (As := [.int t131.2.2.2.2.2, .int y1]) (rest := []) (ci := 3) hx hb hml hown hts hK (kX3_waits l D cI fu a0 a1 a2 a3 a4 a5 a6 a7 a8 a9 a10 a11 t131.1 t131.2.1 t131.2.2.1 t131.2.2.2.1 t131.2.2.2.2.1 TB LN PS TC TW TG CM t131.2.2.2.2.2 y1 v210 h211) gL_isForetold_X3_waits rfl rfl rfl hdX3_waits ⟨Nat.le_of_ble_eq_true rfl, Nat.le_of_ble_eq_true rfl⟩ hP hD rfl rfl rfl rfl hl.1 rfl (Nat.le_of_ble_eq_true rfl) dL_isForetold_144 ⟨Nat.zero_le _, Nat.zero_le _⟩) hD hS hA (fun H locs hP hD hS => ?_)
        refine lv_istore (lv' := [(6, .int v210.1), (5, .int t131.2.2.2.2.2), (4, .int y4), (2, .long y2), (0, .ref a0), (1, .int y1)]) hx hb dL_isForetold_147 hl (by decide) rfl (fun ls hl => ?_)
        refine lv_aload_n hx hb dL_isForetold_149 rfl (lv_at hl 4 rfl) ?_
        refine lv_iload hx hb dL_isForetold_150 (lv_at hl 1 rfl) ?_
        refine lv_bipush (v := (6 : Int32)) hx hb dL_isForetold_152 (by decide) ?_
        obtain ⟨v212, h213, hf⟩ := kBind hf
        refine kgoR (krunV (wc := (wX3 cI a0 a1 a2 a3 a4 a5 a6 a7 a8 a9 a10 a11 t131.1 v210.2 t131.2.2.1 t131.2.2.2.1 t131.2.2.2.2.1 TB LN PS TC TW TG CM)) (As := [.int t131.2.2.2.2.2, .int (6 : Int32)]) (rest := []) (ci := 3) hx hb hml hown hts hK (kX3_crane l D cI fu a0 a1 a2 a3 a4 a5 a6 a7 a8 a9 a10 a11 t131.1 v210.2 t131.2.2.1 t131.2.2.2.1 t131.2.2.2.2.1 TB LN PS TC TW TG CM t131.2.2.2.2.2 (6 : Int32) v212 h213) gL_isForetold_X3_crane rfl rfl rfl hdX3_crane ⟨Nat.le_of_ble_eq_true rfl, Nat.le_of_ble_eq_true rfl⟩ hP hD rfl rfl rfl rfl hl.1 rfl (Nat.le_of_ble_eq_true rfl) dL_isForetold_154 ⟨Nat.zero_le _, Nat.zero_le _⟩) hP hD hS hA [0, 1, 2, 3, 4, 5, 6, 7, 8, 9, 10, 11] rfl (fun H locs hP hS => ?_)
        refine lv_iload hx hb dL_isForetold_157 (lv_at hl 0 rfl) ?_
        refine lv_iadd hx hb dL_isForetold_159 ?_
        refine lv_istore (lv' := [(7, .int (v212 + v210.1)), (6, .int v210.1), (5, .int t131.2.2.2.2.2), (4, .int y4), (2, .long y2), (0, .ref a0), (1, .int y1)]) hx hb dL_isForetold_160 hl (by decide) rfl (fun ls hl => ?_)
        refine lv_aload_n hx hb dL_isForetold_162 rfl (lv_at hl 5 rfl) ?_
        refine lv_iload hx hb dL_isForetold_163 (lv_at hl 2 rfl) ?_
        obtain ⟨v214, h215, hf⟩ := kBind hf
        refine kgoA (krunV (wc := (wX3 cI a0 a1 a2 a3 a4 a5 a6 a7 a8 a9 a10 a11 t131.1 v210.2 t131.2.2.1 t131.2.2.2.1 t131.2.2.2.2.1 TB LN PS TC TW TG CM)) (As := [.int t131.2.2.2.2.2]) (rest := []) (ci := 3) hx hb hml hown hts hK (kX3_done l D cI fu a0 a1 a2 a3 a4 a5 a6 a7 a8 a9 a10 a11 t131.1 v210.2 t131.2.2.1 t131.2.2.2.1 t131.2.2.2.2.1 TB LN PS TC TW TG CM t131.2.2.2.2.2 v214 h215) gL_isForetold_X3_done rfl rfl rfl hdX3_done ⟨Nat.le_of_ble_eq_true rfl, Nat.le_of_ble_eq_true rfl⟩ hP hD rfl rfl rfl rfl hl.1 rfl (Nat.le_of_ble_eq_true rfl) dL_isForetold_165 ⟨Nat.zero_le _, Nat.zero_le _⟩) hD hS hA (fun H locs hP hD hS => ?_)
        refine lv_istore (lv' := [(8, .int v214.1), (7, .int (v212 + v210.1)), (6, .int v210.1), (5, .int t131.2.2.2.2.2), (4, .int y4), (2, .long y2), (0, .ref a0), (1, .int y1)]) hx hb dL_isForetold_168 hl (by decide) rfl (fun ls hl => ?_)
        refine lv_aload_n hx hb dL_isForetold_170 rfl (lv_at hl 6 rfl) ?_
        refine lv_iload hx hb dL_isForetold_171 (lv_at hl 3 rfl) ?_
        refine lv_iconst (v := (0 : Int32)) hx hb dL_isForetold_173 (by decide) ?_
        obtain ⟨v216, h217, hf⟩ := kBind hf
        refine kgoR (krunV (wc := (wX3 cI a0 a1 a2 a3 a4 a5 a6 a7 a8 a9 a10 a11 t131.1 v214.2 t131.2.2.1 t131.2.2.2.1 t131.2.2.2.2.1 TB LN PS TC TW TG CM)) (As := [.int t131.2.2.2.2.2, .int (0 : Int32)]) (rest := []) (ci := 3) hx hb hml hown hts hK (kX3_crane l D cI fu a0 a1 a2 a3 a4 a5 a6 a7 a8 a9 a10 a11 t131.1 v214.2 t131.2.2.1 t131.2.2.2.1 t131.2.2.2.2.1 TB LN PS TC TW TG CM t131.2.2.2.2.2 (0 : Int32) v216 h217) gL_isForetold_X3_crane rfl rfl rfl hdX3_crane ⟨Nat.le_of_ble_eq_true rfl, Nat.le_of_ble_eq_true rfl⟩ hP hD rfl rfl rfl rfl hl.1 rfl (Nat.le_of_ble_eq_true rfl) dL_isForetold_174 ⟨Nat.zero_le _, Nat.zero_le _⟩) hP hD hS hA [0, 1, 2, 3, 4, 5, 6, 7, 8, 9, 10, 11] rfl (fun H locs hP hS => ?_)
        refine lv_istore (lv' := [(9, .int v216), (8, .int v214.1), (7, .int (v212 + v210.1)), (6, .int v210.1), (5, .int t131.2.2.2.2.2), (4, .int y4), (2, .long y2), (0, .ref a0), (1, .int y1)]) hx hb dL_isForetold_177 hl (by decide) rfl (fun ls hl => ?_)
        refine lv_aload_n hx hb dL_isForetold_179 rfl (lv_at hl 7 rfl) ?_
        refine lv_iload hx hb dL_isForetold_180 (lv_at hl 4 rfl) ?_
        refine lv_bipush (v := (9 : Int32)) hx hb dL_isForetold_182 (by decide) ?_
        obtain ⟨v218, h219, hf⟩ := kBind hf
        refine kgoR (krunV (wc := (wX3 cI a0 a1 a2 a3 a4 a5 a6 a7 a8 a9 a10 a11 t131.1 v214.2 t131.2.2.1 t131.2.2.2.1 t131.2.2.2.2.1 TB LN PS TC TW TG CM)) (As := [.int t131.2.2.2.2.2, .int (9 : Int32)]) (rest := []) (ci := 3) hx hb hml hown hts hK (kX3_crane l D cI fu a0 a1 a2 a3 a4 a5 a6 a7 a8 a9 a10 a11 t131.1 v214.2 t131.2.2.1 t131.2.2.2.1 t131.2.2.2.2.1 TB LN PS TC TW TG CM t131.2.2.2.2.2 (9 : Int32) v218 h219) gL_isForetold_X3_crane rfl rfl rfl hdX3_crane ⟨Nat.le_of_ble_eq_true rfl, Nat.le_of_ble_eq_true rfl⟩ hP hD rfl rfl rfl rfl hl.1 rfl (Nat.le_of_ble_eq_true rfl) dL_isForetold_184 ⟨Nat.zero_le _, Nat.zero_le _⟩) hP hD hS hA [0, 1, 2, 3, 4, 5, 6, 7, 8, 9, 10, 11] rfl (fun H locs hP hS => ?_)
        refine lv_istore (lv' := [(10, .int v218), (9, .int v216), (8, .int v214.1), (7, .int (v212 + v210.1)), (6, .int v210.1), (5, .int t131.2.2.2.2.2), (4, .int y4), (2, .long y2), (0, .ref a0), (1, .int y1)]) hx hb dL_isForetold_187 hl (by decide) rfl (fun ls hl => ?_)
        refine lv_aload_n hx hb dL_isForetold_189 rfl (lv_at hl 8 rfl) ?_
        obtain ⟨v220, h221, hf⟩ := kBind hf
        refine kgoR (krunV (wc := (wX3 cI a0 a1 a2 a3 a4 a5 a6 a7 a8 a9 a10 a11 t131.1 v214.2 t131.2.2.1 t131.2.2.2.1 t131.2.2.2.2.1 TB LN PS TC TW TG CM)) (As := []) (rest := []) (ci := 3) hx hb hml hown hts hK (kX3_time l D cI a0 a1 a2 a3 a4 a5 a6 a7 a8 a9 a10 a11 t131.1 v214.2 t131.2.2.1 t131.2.2.2.1 t131.2.2.2.2.1 TB LN PS TC TW TG CM v220 h221) gL_isForetold_X3_time rfl rfl rfl hdX3_time ⟨Nat.le_of_ble_eq_true rfl, Nat.le_of_ble_eq_true rfl⟩ hP hD rfl rfl rfl rfl hl.1 rfl (Nat.le_of_ble_eq_true rfl) dL_isForetold_190 ⟨Nat.zero_le _, Nat.zero_le _⟩) hP hD hS hA [0, 1, 2, 3, 4, 5, 6, 7, 8, 9, 10, 11] rfl (fun H locs hP hS => ?_)
        refine lv_istore (lv' := [(11, .int v220), (10, .int v218), (9, .int v216), (8, .int v214.1), (7, .int (v212 + v210.1)), (6, .int v210.1), (5, .int t131.2.2.2.2.2), (4, .int y4), (2, .long y2), (0, .ref a0), (1, .int y1)]) hx hb dL_isForetold_193 hl (by decide) rfl (fun ls hl => ?_)
        refine lv_iload hx hb dL_isForetold_195 (lv_at hl 5 rfl) ?_
        refine lv_if_lt (tgt := 218) hx hb dL_isForetold_197 (by decide) (fun c222 => ?_) (fun c222 => ?_)
        · have hf := kIfT c222 hf
          refine lv_iconst (v := (0 : Int32)) hx hb dL_isForetold_218 (by decide) ?_
          have he := Option.some.inj hf
          have he := hO1 _ he.symm
          subst he
          exact kretz hx hb hr hlk hP hD hS dL_isForetold_219
        · have hf := kIfF c222 hf
          refine lv_iload hx hb dL_isForetold_200 (lv_at hl 5 rfl) ?_
          refine lv_iload_n hx hb dL_isForetold_202 rfl (lv_at hl 10 rfl) ?_
          refine lv_icmp_gt (tgt := 218) hx hb dL_isForetold_203 (by decide) (fun c223 => ?_) (fun c223 => ?_)
          · have hf := kIfT c223 hf
            refine lv_iconst (v := (0 : Int32)) hx hb dL_isForetold_218 (by decide) ?_
            have he := Option.some.inj hf
            have he := hO1 _ he.symm
            subst he
            exact kretz hx hb hr hlk hP hD hS dL_isForetold_219
          · have hf := kIfF c223 hf
            refine lv_aload_n hx hb dL_isForetold_206 rfl (lv_at hl 9 rfl) ?_
            refine lv_iload_n hx hb dL_isForetold_207 rfl (lv_at hl 10 rfl) ?_
            obtain ⟨v224, h225, hf⟩ := kBind hf
            refine kgoA (krunV (wc := (wX3 cI a0 a1 a2 a3 a4 a5 a6 a7 a8 a9 a10 a11 t131.1 v214.2 t131.2.2.1 t131.2.2.2.1 t131.2.2.2.2.1 TB LN PS TC TW TG CM)) (As := [.int y1]) (rest := []) (ci := 3) hx hb hml hown hts hK (kX3_tick l D cI fu a0 a1 a2 a3 a4 a5 a6 a7 a8 a9 a10 a11 t131.1 v214.2 t131.2.2.1 t131.2.2.2.1 t131.2.2.2.2.1 TB LN PS TC TW TG CM y1 v224 h225) gL_isForetold_X3_tick rfl rfl rfl hdX3_tick ⟨Nat.le_of_ble_eq_true rfl, Nat.le_of_ble_eq_true rfl⟩ hP hD rfl rfl rfl rfl hl.1 rfl (Nat.le_of_ble_eq_true rfl) dL_isForetold_208 ⟨Nat.zero_le _, Nat.zero_le _⟩) hD hS hA (fun H locs hP hD hS => ?_)
            refine lv_iload hx hb dL_isForetold_211 (lv_at hl 0 rfl) ?_
            refine lv_iload_n hx hb dL_isForetold_213 rfl (lv_at hl 10 rfl) ?_
            refine lv_iadd hx hb dL_isForetold_214 ?_
            refine lv_icmp_eq (tgt := 220) hx hb dL_isForetold_215 (by decide) (fun c226 => ?_) (fun c226 => ?_)
            · have hf := kIfT c226 hf
              refine lv_aload_n hx hb dL_isForetold_220 rfl (lv_at hl 9 rfl) ?_
              refine lv_iload hx hb dL_isForetold_221 (lv_at hl 6 rfl) ?_
              refine lv_bipush (v := (6 : Int32)) hx hb dL_isForetold_223 (by decide) ?_
              obtain ⟨v227, h228, hf⟩ := kBind hf
              refine kgoR (krunV (wc := (wX3 cI a0 a1 a2 a3 a4 a5 a6 a7 a8 a9 a10 a11 v224.2.1 v214.2 v224.2.2.1 v224.2.2.2.1 v224.2.2.2.2 TB LN PS TC TW TG CM)) (As := [.int t131.2.2.2.2.2, .int (6 : Int32)]) (rest := []) (ci := 3) hx hb hml hown hts hK (kX3_crane l D cI fu a0 a1 a2 a3 a4 a5 a6 a7 a8 a9 a10 a11 v224.2.1 v214.2 v224.2.2.1 v224.2.2.2.1 v224.2.2.2.2 TB LN PS TC TW TG CM t131.2.2.2.2.2 (6 : Int32) v227 h228) gL_isForetold_X3_crane rfl rfl rfl hdX3_crane ⟨Nat.le_of_ble_eq_true rfl, Nat.le_of_ble_eq_true rfl⟩ hP hD rfl rfl rfl rfl hl.1 rfl (Nat.le_of_ble_eq_true rfl) dL_isForetold_225 ⟨Nat.zero_le _, Nat.zero_le _⟩) hP hD hS hA [0, 1, 2, 3, 4, 5, 6, 7, 8, 9, 10, 11] rfl (fun H locs hP hS => ?_)
              refine lv_iload hx hb dL_isForetold_228 (lv_at hl 4 rfl) ?_
              refine lv_icmp_ne (tgt := 275) hx hb dL_isForetold_230 (by decide) (fun c229 => ?_) (fun c229 => ?_)
              · have hf := kIfF c229 hf
                refine lv_iconst (v := (0 : Int32)) hx hb dL_isForetold_275 (by decide) ?_
                have he := Option.some.inj hf
                have he := hO1 _ he.symm
                subst he
                exact kretz hx hb hr hlk hP hD hS dL_isForetold_276
              · have hf := kIfT c229 hf
                refine lv_iload hx hb dL_isForetold_233 (lv_at hl 3 rfl) ?_
                refine lv_bipush (v := (-100 : Int32)) hx hb dL_isForetold_235 (by decide) ?_
                refine lv_icmp_eq (tgt := 246) hx hb dL_isForetold_237 (by decide) (fun c230 => ?_) (fun c230 => ?_)
                · have hf := kIfT c230 hf
                  refine lv_iconst (v := (1 : Int32)) hx hb dL_isForetold_246 (by decide) ?_
                  refine lv_goto (tgt := 251) hx hb dL_isForetold_247 (by decide) ?_
                  refine lv_aload_n hx hb dL_isForetold_251 rfl (lv_at hl 9 rfl) ?_
                  refine lv_iload hx hb dL_isForetold_252 (lv_at hl 6 rfl) ?_
                  obtain ⟨v231, h232, hf⟩ := kBind hf
                  refine kgoR (krunS (wc := (wX3 cI a0 a1 a2 a3 a4 a5 a6 a7 a8 a9 a10 a11 v224.2.1 v214.2 v224.2.2.1 v224.2.2.2.1 v224.2.2.2.2 TB LN PS TC TW TG CM)) (As := [.ref a0, .int t131.2.2.2.2.2]) (rest := [.int (1 : Int32)]) hx hb hml hown hts hK (kL_hasTarget l D cI fu a0 a1 a2 a3 a4 a5 a6 a7 a8 a9 a10 a11 v224.2.1 v214.2 v224.2.2.1 v224.2.2.2.1 v224.2.2.2.2 TB LN PS TC TW TG CM t131.2.2.2.2.2 v231 h232) gL_isForetold_L_hasTarget rfl rfl rfl hdL_hasTarget ⟨Nat.le_of_ble_eq_true rfl, Nat.le_of_ble_eq_true rfl⟩ hP hD rfl hl.1 rfl (Nat.le_of_ble_eq_true rfl) dL_isForetold_254 ⟨Nat.zero_le _, Nat.zero_le _⟩) hP hD hS hA [0, 1, 2, 3, 4, 5, 6, 7, 8, 9, 10, 11] rfl (fun H locs hP hS => ?_)
                  refine lv_icmp_ne (tgt := 275) hx hb dL_isForetold_257 (by decide) (fun c233 => ?_) (fun c233 => ?_)
                  · have hf := kIfF c233 hf
                    refine lv_iconst (v := (0 : Int32)) hx hb dL_isForetold_275 (by decide) ?_
                    have he := Option.some.inj hf
                    have he := hO1 _ he.symm
                    subst he
                    exact kretz hx hb hr hlk hP hD hS dL_isForetold_276
                  · have hf := kIfT c233 hf
                    refine lv_aload_n hx hb dL_isForetold_260 rfl (lv_at hl 9 rfl) ?_
                    refine lv_iload hx hb dL_isForetold_261 (lv_at hl 6 rfl) ?_
                    refine lv_bipush (v := (9 : Int32)) hx hb dL_isForetold_263 (by decide) ?_
                    obtain ⟨v234, h235, hf⟩ := kBind hf
                    refine kgoR (krunV (wc := (wX3 cI a0 a1 a2 a3 a4 a5 a6 a7 a8 a9 a10 a11 v224.2.1 v214.2 v224.2.2.1 v224.2.2.2.1 v224.2.2.2.2 TB LN PS TC TW TG CM)) (As := [.int t131.2.2.2.2.2, .int (9 : Int32)]) (rest := []) (ci := 3) hx hb hml hown hts hK (kX3_crane l D cI fu a0 a1 a2 a3 a4 a5 a6 a7 a8 a9 a10 a11 v224.2.1 v214.2 v224.2.2.1 v224.2.2.2.1 v224.2.2.2.2 TB LN PS TC TW TG CM t131.2.2.2.2.2 (9 : Int32) v234 h235) gL_isForetold_X3_crane rfl rfl rfl hdX3_crane ⟨Nat.le_of_ble_eq_true rfl, Nat.le_of_ble_eq_true rfl⟩ hP hD rfl rfl rfl rfl hl.1 rfl (Nat.le_of_ble_eq_true rfl) dL_isForetold_265 ⟨Nat.zero_le _, Nat.zero_le _⟩) hP hD hS hA [0, 1, 2, 3, 4, 5, 6, 7, 8, 9, 10, 11] rfl (fun H locs hP hS => ?_)
                    refine lv_iload hx hb dL_isForetold_268 (lv_at hl 1 rfl) ?_
                    refine lv_isub hx hb dL_isForetold_270 ?_
                    refine lv_iload_n hx hb dL_isForetold_271 rfl (lv_at hl 10 rfl) ?_
                    refine lv_icmp_le (tgt := 277) hx hb dL_isForetold_272 (by decide) (fun c236 => ?_) (fun c236 => ?_)
                    · have hf := kIfT c236 hf
                      exact hJ277 v224.2.1 v214.2 v224.2.2.1 v224.2.2.2.1 v224.2.2.2.2 v220 v218 v216 v214.1 (v212 + v210.1) v210.1 t131.2.2.2.2.2 hf H locs ls hP hD hS (lv_sub hl [0, 1, 2, 3, 4, 5, 6, 7, 8, 9, 10] rfl)
                    · have hf := kIfF c236 hf
                      refine lv_iconst (v := (0 : Int32)) hx hb dL_isForetold_275 (by decide) ?_
                      have he := Option.some.inj hf
                      have he := hO1 _ he.symm
                      subst he
                      exact kretz hx hb hr hlk hP hD hS dL_isForetold_276
                · have hf := kIfF c230 hf
                  refine lv_iload hx hb dL_isForetold_240 (lv_at hl 3 rfl) ?_
                  refine lv_iload_n hx hb dL_isForetold_242 rfl (lv_at hl 10 rfl) ?_
                  refine lv_icmp_le (tgt := 250) hx hb dL_isForetold_243 (by decide) (fun c237 => ?_) (fun c237 => ?_)
                  · have hf := kIfT c237 hf
                    refine lv_iconst (v := (0 : Int32)) hx hb dL_isForetold_250 (by decide) ?_
                    refine lv_aload_n hx hb dL_isForetold_251 rfl (lv_at hl 9 rfl) ?_
                    refine lv_iload hx hb dL_isForetold_252 (lv_at hl 6 rfl) ?_
                    obtain ⟨v238, h239, hf⟩ := kBind hf
                    refine kgoR (krunS (wc := (wX3 cI a0 a1 a2 a3 a4 a5 a6 a7 a8 a9 a10 a11 v224.2.1 v214.2 v224.2.2.1 v224.2.2.2.1 v224.2.2.2.2 TB LN PS TC TW TG CM)) (As := [.ref a0, .int t131.2.2.2.2.2]) (rest := [.int (0 : Int32)]) hx hb hml hown hts hK (kL_hasTarget l D cI fu a0 a1 a2 a3 a4 a5 a6 a7 a8 a9 a10 a11 v224.2.1 v214.2 v224.2.2.1 v224.2.2.2.1 v224.2.2.2.2 TB LN PS TC TW TG CM t131.2.2.2.2.2 v238 h239) gL_isForetold_L_hasTarget rfl rfl rfl hdL_hasTarget ⟨Nat.le_of_ble_eq_true rfl, Nat.le_of_ble_eq_true rfl⟩ hP hD rfl hl.1 rfl (Nat.le_of_ble_eq_true rfl) dL_isForetold_254 ⟨Nat.zero_le _, Nat.zero_le _⟩) hP hD hS hA [0, 1, 2, 3, 4, 5, 6, 7, 8, 9, 10, 11] rfl (fun H locs hP hS => ?_)
                    refine lv_icmp_ne (tgt := 275) hx hb dL_isForetold_257 (by decide) (fun c240 => ?_) (fun c240 => ?_)
                    · have hf := kIfF c240 hf
                      refine lv_iconst (v := (0 : Int32)) hx hb dL_isForetold_275 (by decide) ?_
                      have he := Option.some.inj hf
                      have he := hO1 _ he.symm
                      subst he
                      exact kretz hx hb hr hlk hP hD hS dL_isForetold_276
                    · have hf := kIfT c240 hf
                      refine lv_aload_n hx hb dL_isForetold_260 rfl (lv_at hl 9 rfl) ?_
                      refine lv_iload hx hb dL_isForetold_261 (lv_at hl 6 rfl) ?_
                      refine lv_bipush (v := (9 : Int32)) hx hb dL_isForetold_263 (by decide) ?_
                      obtain ⟨v241, h242, hf⟩ := kBind hf
                      refine kgoR (krunV (wc := (wX3 cI a0 a1 a2 a3 a4 a5 a6 a7 a8 a9 a10 a11 v224.2.1 v214.2 v224.2.2.1 v224.2.2.2.1 v224.2.2.2.2 TB LN PS TC TW TG CM)) (As := [.int t131.2.2.2.2.2, .int (9 : Int32)]) (rest := []) (ci := 3) hx hb hml hown hts hK (kX3_crane l D cI fu a0 a1 a2 a3 a4 a5 a6 a7 a8 a9 a10 a11 v224.2.1 v214.2 v224.2.2.1 v224.2.2.2.1 v224.2.2.2.2 TB LN PS TC TW TG CM t131.2.2.2.2.2 (9 : Int32) v241 h242) gL_isForetold_X3_crane rfl rfl rfl hdX3_crane ⟨Nat.le_of_ble_eq_true rfl, Nat.le_of_ble_eq_true rfl⟩ hP hD rfl rfl rfl rfl hl.1 rfl (Nat.le_of_ble_eq_true rfl) dL_isForetold_265 ⟨Nat.zero_le _, Nat.zero_le _⟩) hP hD hS hA [0, 1, 2, 3, 4, 5, 6, 7, 8, 9, 10, 11] rfl (fun H locs hP hS => ?_)
                      refine lv_iload hx hb dL_isForetold_268 (lv_at hl 1 rfl) ?_
                      refine lv_isub hx hb dL_isForetold_270 ?_
                      refine lv_iload_n hx hb dL_isForetold_271 rfl (lv_at hl 10 rfl) ?_
                      refine lv_icmp_le (tgt := 277) hx hb dL_isForetold_272 (by decide) (fun c243 => ?_) (fun c243 => ?_)
                      · have hf := kIfT c243 hf
                        exact hJ277 v224.2.1 v214.2 v224.2.2.1 v224.2.2.2.1 v224.2.2.2.2 v220 v218 v216 v214.1 (v212 + v210.1) v210.1 t131.2.2.2.2.2 hf H locs ls hP hD hS (lv_sub hl [0, 1, 2, 3, 4, 5, 6, 7, 8, 9, 10] rfl)
                      · have hf := kIfF c243 hf
                        refine lv_iconst (v := (0 : Int32)) hx hb dL_isForetold_275 (by decide) ?_
                        have he := Option.some.inj hf
                        have he := hO1 _ he.symm
                        subst he
                        exact kretz hx hb hr hlk hP hD hS dL_isForetold_276
                  · have hf := kIfF c237 hf
                    refine lv_iconst (v := (1 : Int32)) hx hb dL_isForetold_246 (by decide) ?_
                    refine lv_goto (tgt := 251) hx hb dL_isForetold_247 (by decide) ?_
                    refine lv_aload_n hx hb dL_isForetold_251 rfl (lv_at hl 9 rfl) ?_
                    refine lv_iload hx hb dL_isForetold_252 (lv_at hl 6 rfl) ?_
                    obtain ⟨v244, h245, hf⟩ := kBind hf
                    refine kgoR (krunS (wc := (wX3 cI a0 a1 a2 a3 a4 a5 a6 a7 a8 a9 a10 a11 v224.2.1 v214.2 v224.2.2.1 v224.2.2.2.1 v224.2.2.2.2 TB LN PS TC TW TG CM)) (As := [.ref a0, .int t131.2.2.2.2.2]) (rest := [.int (1 : Int32)]) hx hb hml hown hts hK (kL_hasTarget l D cI fu a0 a1 a2 a3 a4 a5 a6 a7 a8 a9 a10 a11 v224.2.1 v214.2 v224.2.2.1 v224.2.2.2.1 v224.2.2.2.2 TB LN PS TC TW TG CM t131.2.2.2.2.2 v244 h245) gL_isForetold_L_hasTarget rfl rfl rfl hdL_hasTarget ⟨Nat.le_of_ble_eq_true rfl, Nat.le_of_ble_eq_true rfl⟩ hP hD rfl hl.1 rfl (Nat.le_of_ble_eq_true rfl) dL_isForetold_254 ⟨Nat.zero_le _, Nat.zero_le _⟩) hP hD hS hA [0, 1, 2, 3, 4, 5, 6, 7, 8, 9, 10, 11] rfl (fun H locs hP hS => ?_)
                    refine lv_icmp_ne (tgt := 275) hx hb dL_isForetold_257 (by decide) (fun c246 => ?_) (fun c246 => ?_)
                    · have hf := kIfF c246 hf
                      refine lv_iconst (v := (0 : Int32)) hx hb dL_isForetold_275 (by decide) ?_
                      have he := Option.some.inj hf
                      have he := hO1 _ he.symm
                      subst he
                      exact kretz hx hb hr hlk hP hD hS dL_isForetold_276
                    · have hf := kIfT c246 hf
                      refine lv_aload_n hx hb dL_isForetold_260 rfl (lv_at hl 9 rfl) ?_
                      refine lv_iload hx hb dL_isForetold_261 (lv_at hl 6 rfl) ?_
                      refine lv_bipush (v := (9 : Int32)) hx hb dL_isForetold_263 (by decide) ?_
                      obtain ⟨v247, h248, hf⟩ := kBind hf
                      refine kgoR (krunV (wc := (wX3 cI a0 a1 a2 a3 a4 a5 a6 a7 a8 a9 a10 a11 v224.2.1 v214.2 v224.2.2.1 v224.2.2.2.1 v224.2.2.2.2 TB LN PS TC TW TG CM)) (As := [.int t131.2.2.2.2.2, .int (9 : Int32)]) (rest := []) (ci := 3) hx hb hml hown hts hK (kX3_crane l D cI fu a0 a1 a2 a3 a4 a5 a6 a7 a8 a9 a10 a11 v224.2.1 v214.2 v224.2.2.1 v224.2.2.2.1 v224.2.2.2.2 TB LN PS TC TW TG CM t131.2.2.2.2.2 (9 : Int32) v247 h248) gL_isForetold_X3_crane rfl rfl rfl hdX3_crane ⟨Nat.le_of_ble_eq_true rfl, Nat.le_of_ble_eq_true rfl⟩ hP hD rfl rfl rfl rfl hl.1 rfl (Nat.le_of_ble_eq_true rfl) dL_isForetold_265 ⟨Nat.zero_le _, Nat.zero_le _⟩) hP hD hS hA [0, 1, 2, 3, 4, 5, 6, 7, 8, 9, 10, 11] rfl (fun H locs hP hS => ?_)
                      refine lv_iload hx hb dL_isForetold_268 (lv_at hl 1 rfl) ?_
                      refine lv_isub hx hb dL_isForetold_270 ?_
                      refine lv_iload_n hx hb dL_isForetold_271 rfl (lv_at hl 10 rfl) ?_
                      refine lv_icmp_le (tgt := 277) hx hb dL_isForetold_272 (by decide) (fun c249 => ?_) (fun c249 => ?_)
                      · have hf := kIfT c249 hf
                        exact hJ277 v224.2.1 v214.2 v224.2.2.1 v224.2.2.2.1 v224.2.2.2.2 v220 v218 v216 v214.1 (v212 + v210.1) v210.1 t131.2.2.2.2.2 hf H locs ls hP hD hS (lv_sub hl [0, 1, 2, 3, 4, 5, 6, 7, 8, 9, 10] rfl)
                      · have hf := kIfF c249 hf
                        refine lv_iconst (v := (0 : Int32)) hx hb dL_isForetold_275 (by decide) ?_
                        have he := Option.some.inj hf
                        have he := hO1 _ he.symm
                        subst he
                        exact kretz hx hb hr hlk hP hD hS dL_isForetold_276
            · have hf := kIfF c226 hf
              refine lv_iconst (v := (0 : Int32)) hx hb dL_isForetold_218 (by decide) ?_
              have he := Option.some.inj hf
              have he := hO1 _ he.symm
              subst he
              exact kretz hx hb hr hlk hP hD hS dL_isForetold_219
    · have hf := kIfF c190 hf
      refine lv_iconst (v := (0 : Int32)) hx hb dL_isForetold_126 (by decide) ?_
      have he := Option.some.inj hf
      subst he
      exact kretz hx hb hr hlk hP hD hS dL_isForetold_127
  refine lv_aload_n hx hb dL_isForetold_0 rfl (lv_at hl 0 rfl) ?_
  obtain ⟨v250, h251, hf⟩ := kBind hf
  refine kgoR (krunV (wc := (wX3 cI a0 a1 a2 a3 a4 a5 a6 a7 a8 a9 a10 a11 R R2 HR HS HN TB LN PS TC TW TG CM)) (As := []) (rest := []) (ci := 3) hx hb hml hown hts hK (kX3_digest l D cI fu a0 a1 a2 a3 a4 a5 a6 a7 a8 a9 a10 a11 R R2 HR HS HN TB LN PS TC TW TG CM v250 h251) gL_isForetold_X3_digest rfl rfl rfl hdX3_digest ⟨Nat.le_of_ble_eq_true rfl, Nat.le_of_ble_eq_true rfl⟩ hP hD rfl rfl rfl rfl hl.1 rfl (Nat.le_of_ble_eq_true rfl) dL_isForetold_1 ⟨Nat.zero_le _, Nat.zero_le _⟩) hP hD hS hA [0, 1, 2, 3, 4, 5, 6, 7, 8, 9, 10, 11] rfl (fun H locs hP hS => ?_)
  refine lv_lstore_n (lv' := [(2, .long v250), (0, .ref a0), (1, .int x1)]) hx hb dL_isForetold_4 rfl hl (by decide) rfl (fun ls hl => ?_)
  refine lv_iconst (v := (0 : Int32)) hx hb dL_isForetold_5 (by decide) ?_
  refine lv_istore (lv' := [(4, .int (0 : Int32)), (2, .long v250), (0, .ref a0), (1, .int x1)]) hx hb dL_isForetold_6 hl (by decide) rfl (fun ls hl => ?_)
  refine lv_iconst (v := (0 : Int32)) hx hb dL_isForetold_8 (by decide) ?_
  refine lv_istore (lv' := [(5, .int (0 : Int32)), (4, .int (0 : Int32)), (2, .long v250), (0, .ref a0), (1, .int x1)]) hx hb dL_isForetold_9 hl (by decide) rfl (fun ls hl => ?_)
  have hl : lv_has ls 12 [(5, .int (0 : Int32)), (4, .int (0 : Int32)), (2, .long v250), (0, .ref a0), (1, .int x1)] := hl
  refine klp hf (fun t11 : (Nat → Int32) × Int32 × Int32 => (wX3 cI a0 a1 a2 a3 a4 a5 a6 a7 a8 a9 a10 a11 R t11.1 HR HS HN TB LN PS TC TW TG CM)) 12 (fun t11 : (Nat → Int32) × Int32 × Int32 => [(5, .int t11.2.2), (4, .int t11.2.1), (2, .long v250), (0, .ref a0), (1, .int x1)]) ?_ hP hD hS hl
  intro t11 x11_ hf hI1 hO1 H locs ls hP hD hS hl
  unfold fL_isForetold_L11 at hf
  refine kcut (D := D) (A := A) (fun K => ∀ (R2 : (Nat → Int32)) (y4 : Int32) (y6 : Int32) (y5 : Int32), fL_isForetold_J65 fu R R2 HR HS HN y4 y6 y5 = some x11_ → K (wX3 cI a0 a1 a2 a3 a4 a5 a6 a7 a8 a9 a10 a11 R R2 HR HS HN TB LN PS TC TW TG CM) 12 [(4, .int y4), (6, .int y6), (5, .int y5), (2, .long v250), (0, .ref a0), (1, .int x1)] 65) ?_ (fun hJ65 => ?_)
  · intro R2 y4 y6 y5 hf H locs ls hP hD hS hl
    unfold fL_isForetold_J65 at hf
    have hP : va_P D vwCl (wX3 cI a0 a1 a2 a3 a4 a5 a6 a7 a8 a9 a10 a11 R R2 HR HS HN TB LN PS TC TW TG CM) H := hP
    have hD : va_D A (wX3 cI a0 a1 a2 a3 a4 a5 a6 a7 a8 a9 a10 a11 R R2 HR HS HN TB LN PS TC TW TG CM) := hD
    have hl : lv_has ls 12 [(4, .int y4), (6, .int y6), (5, .int y5), (2, .long v250), (0, .ref a0), (1, .int x1)] := hl
    refine lv_iload hx hb dL_isForetold_65 (lv_at hl 1 rfl) ?_
    refine lv_if_ne (tgt := 74) hx hb dL_isForetold_67 (by decide) (fun c252 => ?_) (fun c252 => ?_)
    · have hf := kIfF c252 hf
      refine lv_iconst (v := (0 : Int32)) hx hb dL_isForetold_74 (by decide) ?_
      refine lv_aload_n hx hb dL_isForetold_75 rfl (lv_at hl 4 rfl) ?_
      refine lv_iload hx hb dL_isForetold_76 (lv_at hl 2 rfl) ?_
      obtain ⟨v253, h254, hf⟩ := kBind hf
      refine kgoR (krunS (wc := (wX3 cI a0 a1 a2 a3 a4 a5 a6 a7 a8 a9 a10 a11 R R2 HR HS HN TB LN PS TC TW TG CM)) (As := [.ref a0, .int y5]) (rest := [.int (0 : Int32)]) hx hb hml hown hts hK (kL_hasTarget l D cI fu a0 a1 a2 a3 a4 a5 a6 a7 a8 a9 a10 a11 R R2 HR HS HN TB LN PS TC TW TG CM y5 v253 h254) gL_isForetold_L_hasTarget rfl rfl rfl hdL_hasTarget ⟨Nat.le_of_ble_eq_true rfl, Nat.le_of_ble_eq_true rfl⟩ hP hD rfl hl.1 rfl (Nat.le_of_ble_eq_true rfl) dL_isForetold_78 ⟨Nat.zero_le _, Nat.zero_le _⟩) hP hD hS hA [0, 1, 2, 3, 4, 5, 6, 7, 8, 9, 10, 11] rfl (fun H locs hP hS => ?_)
      refine lv_icmp_eq (tgt := 109) hx hb dL_isForetold_81 (by decide) (fun c255 => ?_) (fun c255 => ?_)
      · have hf := kIfT c255 hf
        refine lv_iconst (v := (0 : Int32)) hx hb dL_isForetold_109 (by decide) ?_
        have he := Option.some.inj hf
        have he := hO1 _ he.symm
        subst he
        exact kretz hx hb hr hlk hP hD hS dL_isForetold_110
      · have hf := kIfF c255 hf
        refine lv_iload hx hb dL_isForetold_84 (lv_at hl 1 rfl) ?_
        refine lv_if_le (tgt := 111) hx hb dL_isForetold_86 (by decide) (fun c256 => ?_) (fun c256 => ?_)
        · have hf := kIfT c256 hf
          refine lv_iinc (v := y5 + (1 : Int32)) (lv' := [(5, .int (y5 + (1 : Int32))), (4, .int y4), (6, .int y6), (2, .long v250), (0, .ref a0), (1, .int x1)]) hx hb dL_isForetold_111 hl (k := 2) rfl rfl (by decide) rfl (fun ls hl => ?_)
          refine lv_goto (tgt := 11) hx hb dL_isForetold_114 (by decide) ?_
          obtain ⟨z257, hz257⟩ : ∃ z : Int32, z = y5 + (1 : Int32) := ⟨_, rfl⟩
          rw [← hz257] at hf
          have he := (Option.some.inj hf).symm
          have hl : lv_has ls 12 [(5, .int z257), (4, .int y4), (2, .long v250), (0, .ref a0), (1, .int x1)] := by rw [hz257]; exact lv_sub hl [0, 1, 3, 4, 5] rfl
          exact hI1 _ he H locs ls hP hD hS hl
        · have hf := kIfF c256 hf
          refine lv_iload hx hb dL_isForetold_89 (lv_at hl 1 rfl) ?_
          refine lv_aload_n hx hb dL_isForetold_91 rfl (lv_at hl 4 rfl) ?_
          refine lv_iload hx hb dL_isForetold_92 (lv_at hl 2 rfl) ?_
          obtain ⟨v258, h259, hf⟩ := kBind hf
          refine kgoR (krunV (wc := (wX3 cI a0 a1 a2 a3 a4 a5 a6 a7 a8 a9 a10 a11 R R2 HR HS HN TB LN PS TC TW TG CM)) (As := [.int y5]) (rest := [.int y6]) (ci := 3) hx hb hml hown hts hK (kX3_needs l D cI a0 a1 a2 a3 a4 a5 a6 a7 a8 a9 a10 a11 R R2 HR HS HN TB LN PS TC TW TG CM y5 v258 h259) gL_isForetold_X3_needs rfl rfl rfl hdX3_needs ⟨Nat.le_of_ble_eq_true rfl, Nat.le_of_ble_eq_true rfl⟩ hP hD rfl rfl rfl rfl hl.1 rfl (Nat.le_of_ble_eq_true rfl) dL_isForetold_94 ⟨Nat.zero_le _, Nat.zero_le _⟩) hP hD hS hA [0, 1, 2, 3, 4, 5, 6, 7, 8, 9, 10, 11] rfl (fun H locs hP hS => ?_)
          refine lv_aload_n hx hb dL_isForetold_97 rfl (lv_at hl 4 rfl) ?_
          refine lv_iload hx hb dL_isForetold_98 (lv_at hl 2 rfl) ?_
          refine lv_iload hx hb dL_isForetold_100 (lv_at hl 1 rfl) ?_
          obtain ⟨v260, h261, hf⟩ := kBind hf
          refine kgoA (krunV (wc := (wX3 cI a0 a1 a2 a3 a4 a5 a6 a7 a8 a9 a10 a11 R R2 HR HS HN TB LN PS TC TW TG CM)) (As := [.int y5, .int y6]) (rest := [.int v258, .int y6]) (ci := 3) hx hb hml hown hts hK (kX3_waits l D cI fu a0 a1 a2 a3 a4 a5 a6 a7 a8 a9 a10 a11 R R2 HR HS HN TB LN PS TC TW TG CM y5 y6 v260 h261) gL_isForetold_X3_waits rfl rfl rfl hdX3_waits ⟨Nat.le_of_ble_eq_true rfl, Nat.le_of_ble_eq_true rfl⟩ hP hD rfl rfl rfl rfl hl.1 rfl (Nat.le_of_ble_eq_true rfl) dL_isForetold_102 ⟨Nat.zero_le _, Nat.zero_le _⟩) hD hS hA (fun H locs hP hD hS => ?_)
          refine lv_iadd hx hb dL_isForetold_105 ?_
          refine lv_icmp_eq (tgt := 111) hx hb dL_isForetold_106 (by decide) (fun c262 => ?_) (fun c262 => ?_)
          · have hf := kIfT c262 hf
            refine lv_iinc (v := y5 + (1 : Int32)) (lv' := [(5, .int (y5 + (1 : Int32))), (4, .int y4), (6, .int y6), (2, .long v250), (0, .ref a0), (1, .int x1)]) hx hb dL_isForetold_111 hl (k := 2) rfl rfl (by decide) rfl (fun ls hl => ?_)
            refine lv_goto (tgt := 11) hx hb dL_isForetold_114 (by decide) ?_
            obtain ⟨z263, hz263⟩ : ∃ z : Int32, z = y5 + (1 : Int32) := ⟨_, rfl⟩
            rw [← hz263] at hf
            have he := (Option.some.inj hf).symm
            have hl : lv_has ls 12 [(5, .int z263), (4, .int y4), (2, .long v250), (0, .ref a0), (1, .int x1)] := by rw [hz263]; exact lv_sub hl [0, 1, 3, 4, 5] rfl
            exact hI1 _ he H locs ls hP hD hS hl
          · have hf := kIfF c262 hf
            refine lv_iconst (v := (0 : Int32)) hx hb dL_isForetold_109 (by decide) ?_
            have he := Option.some.inj hf
            have he := hO1 _ he.symm
            subst he
            exact kretz hx hb hr hlk hP hD hS dL_isForetold_110
    · have hf := kIfT c252 hf
      refine lv_iconst (v := (1 : Int32)) hx hb dL_isForetold_70 (by decide) ?_
      refine lv_goto (tgt := 75) hx hb dL_isForetold_71 (by decide) ?_
      refine lv_aload_n hx hb dL_isForetold_75 rfl (lv_at hl 4 rfl) ?_
      refine lv_iload hx hb dL_isForetold_76 (lv_at hl 2 rfl) ?_
      obtain ⟨v264, h265, hf⟩ := kBind hf
      refine kgoR (krunS (wc := (wX3 cI a0 a1 a2 a3 a4 a5 a6 a7 a8 a9 a10 a11 R R2 HR HS HN TB LN PS TC TW TG CM)) (As := [.ref a0, .int y5]) (rest := [.int (1 : Int32)]) hx hb hml hown hts hK (kL_hasTarget l D cI fu a0 a1 a2 a3 a4 a5 a6 a7 a8 a9 a10 a11 R R2 HR HS HN TB LN PS TC TW TG CM y5 v264 h265) gL_isForetold_L_hasTarget rfl rfl rfl hdL_hasTarget ⟨Nat.le_of_ble_eq_true rfl, Nat.le_of_ble_eq_true rfl⟩ hP hD rfl hl.1 rfl (Nat.le_of_ble_eq_true rfl) dL_isForetold_78 ⟨Nat.zero_le _, Nat.zero_le _⟩) hP hD hS hA [0, 1, 2, 3, 4, 5, 6, 7, 8, 9, 10, 11] rfl (fun H locs hP hS => ?_)
      refine lv_icmp_eq (tgt := 109) hx hb dL_isForetold_81 (by decide) (fun c266 => ?_) (fun c266 => ?_)
      · have hf := kIfT c266 hf
        refine lv_iconst (v := (0 : Int32)) hx hb dL_isForetold_109 (by decide) ?_
        have he := Option.some.inj hf
        have he := hO1 _ he.symm
        subst he
        exact kretz hx hb hr hlk hP hD hS dL_isForetold_110
      · have hf := kIfF c266 hf
        refine lv_iload hx hb dL_isForetold_84 (lv_at hl 1 rfl) ?_
        refine lv_if_le (tgt := 111) hx hb dL_isForetold_86 (by decide) (fun c267 => ?_) (fun c267 => ?_)
        · have hf := kIfT c267 hf
          refine lv_iinc (v := y5 + (1 : Int32)) (lv' := [(5, .int (y5 + (1 : Int32))), (4, .int y4), (6, .int y6), (2, .long v250), (0, .ref a0), (1, .int x1)]) hx hb dL_isForetold_111 hl (k := 2) rfl rfl (by decide) rfl (fun ls hl => ?_)
          refine lv_goto (tgt := 11) hx hb dL_isForetold_114 (by decide) ?_
          obtain ⟨z268, hz268⟩ : ∃ z : Int32, z = y5 + (1 : Int32) := ⟨_, rfl⟩
          rw [← hz268] at hf
          have he := (Option.some.inj hf).symm
          have hl : lv_has ls 12 [(5, .int z268), (4, .int y4), (2, .long v250), (0, .ref a0), (1, .int x1)] := by rw [hz268]; exact lv_sub hl [0, 1, 3, 4, 5] rfl
          exact hI1 _ he H locs ls hP hD hS hl
        · have hf := kIfF c267 hf
          refine lv_iload hx hb dL_isForetold_89 (lv_at hl 1 rfl) ?_
          refine lv_aload_n hx hb dL_isForetold_91 rfl (lv_at hl 4 rfl) ?_
          refine lv_iload hx hb dL_isForetold_92 (lv_at hl 2 rfl) ?_
          obtain ⟨v269, h270, hf⟩ := kBind hf
          refine kgoR (krunV (wc := (wX3 cI a0 a1 a2 a3 a4 a5 a6 a7 a8 a9 a10 a11 R R2 HR HS HN TB LN PS TC TW TG CM)) (As := [.int y5]) (rest := [.int y6]) (ci := 3) hx hb hml hown hts hK (kX3_needs l D cI a0 a1 a2 a3 a4 a5 a6 a7 a8 a9 a10 a11 R R2 HR HS HN TB LN PS TC TW TG CM y5 v269 h270) gL_isForetold_X3_needs rfl rfl rfl hdX3_needs ⟨Nat.le_of_ble_eq_true rfl, Nat.le_of_ble_eq_true rfl⟩ hP hD rfl rfl rfl rfl hl.1 rfl (Nat.le_of_ble_eq_true rfl) dL_isForetold_94 ⟨Nat.zero_le _, Nat.zero_le _⟩) hP hD hS hA [0, 1, 2, 3, 4, 5, 6, 7, 8, 9, 10, 11] rfl (fun H locs hP hS => ?_)
          refine lv_aload_n hx hb dL_isForetold_97 rfl (lv_at hl 4 rfl) ?_
          refine lv_iload hx hb dL_isForetold_98 (lv_at hl 2 rfl) ?_
          refine lv_iload hx hb dL_isForetold_100 (lv_at hl 1 rfl) ?_
          obtain ⟨v271, h272, hf⟩ := kBind hf
          refine kgoA (krunV (wc := (wX3 cI a0 a1 a2 a3 a4 a5 a6 a7 a8 a9 a10 a11 R R2 HR HS HN TB LN PS TC TW TG CM)) (As := [.int y5, .int y6]) (rest := [.int v269, .int y6]) (ci := 3) hx hb hml hown hts hK (kX3_waits l D cI fu a0 a1 a2 a3 a4 a5 a6 a7 a8 a9 a10 a11 R R2 HR HS HN TB LN PS TC TW TG CM y5 y6 v271 h272) gL_isForetold_X3_waits rfl rfl rfl hdX3_waits ⟨Nat.le_of_ble_eq_true rfl, Nat.le_of_ble_eq_true rfl⟩ hP hD rfl rfl rfl rfl hl.1 rfl (Nat.le_of_ble_eq_true rfl) dL_isForetold_102 ⟨Nat.zero_le _, Nat.zero_le _⟩) hD hS hA (fun H locs hP hD hS => ?_)
          refine lv_iadd hx hb dL_isForetold_105 ?_
          refine lv_icmp_eq (tgt := 111) hx hb dL_isForetold_106 (by decide) (fun c273 => ?_) (fun c273 => ?_)
          · have hf := kIfT c273 hf
            refine lv_iinc (v := y5 + (1 : Int32)) (lv' := [(5, .int (y5 + (1 : Int32))), (4, .int y4), (6, .int y6), (2, .long v250), (0, .ref a0), (1, .int x1)]) hx hb dL_isForetold_111 hl (k := 2) rfl rfl (by decide) rfl (fun ls hl => ?_)
            refine lv_goto (tgt := 11) hx hb dL_isForetold_114 (by decide) ?_
            obtain ⟨z274, hz274⟩ : ∃ z : Int32, z = y5 + (1 : Int32) := ⟨_, rfl⟩
            rw [← hz274] at hf
            have he := (Option.some.inj hf).symm
            have hl : lv_has ls 12 [(5, .int z274), (4, .int y4), (2, .long v250), (0, .ref a0), (1, .int x1)] := by rw [hz274]; exact lv_sub hl [0, 1, 3, 4, 5] rfl
            exact hI1 _ he H locs ls hP hD hS hl
          · have hf := kIfF c273 hf
            refine lv_iconst (v := (0 : Int32)) hx hb dL_isForetold_109 (by decide) ?_
            have he := Option.some.inj hf
            have he := hO1 _ he.symm
            subst he
            exact kretz hx hb hr hlk hP hD hS dL_isForetold_110
  have hP : va_P D vwCl (wX3 cI a0 a1 a2 a3 a4 a5 a6 a7 a8 a9 a10 a11 R t11.1 HR HS HN TB LN PS TC TW TG CM) H := hP
  have hD : va_D A (wX3 cI a0 a1 a2 a3 a4 a5 a6 a7 a8 a9 a10 a11 R t11.1 HR HS HN TB LN PS TC TW TG CM) := hD
  have hl : lv_has ls 12 [(5, .int t11.2.2), (4, .int t11.2.1), (2, .long v250), (0, .ref a0), (1, .int x1)] := hl
  refine lv_iload hx hb dL_isForetold_11 (lv_at hl 0 rfl) ?_
  refine lv_aload_n hx hb dL_isForetold_13 rfl (lv_at hl 3 rfl) ?_
  obtain ⟨v275, h276, hf⟩ := kBind hf
  refine kgoR (krunV (wc := (wX3 cI a0 a1 a2 a3 a4 a5 a6 a7 a8 a9 a10 a11 R t11.1 HR HS HN TB LN PS TC TW TG CM)) (As := []) (rest := [.int t11.2.2]) (ci := 3) hx hb hml hown hts hK (kX3_cranes l D cI a0 a1 a2 a3 a4 a5 a6 a7 a8 a9 a10 a11 R t11.1 HR HS HN TB LN PS TC TW TG CM v275 h276) gL_isForetold_X3_cranes rfl rfl rfl hdX3_cranes ⟨Nat.le_of_ble_eq_true rfl, Nat.le_of_ble_eq_true rfl⟩ hP hD rfl rfl rfl rfl hl.1 rfl (Nat.le_of_ble_eq_true rfl) dL_isForetold_14 ⟨Nat.zero_le _, Nat.zero_le _⟩) hP hD hS hA [0, 1, 2, 3, 4, 5, 6, 7, 8, 9, 10, 11] rfl (fun H locs hP hS => ?_)
  refine lv_icmp_ge (tgt := 117) hx hb dL_isForetold_17 (by decide) (fun c277 => ?_) (fun c277 => ?_)
  · have hf := kIfT c277 hf
    obtain ⟨r_, hf, he⟩ := kBind hf
    have he := (Option.some.inj he).symm
    have he := hO1 _ he
    rw [he] at hf
    exact hJ117 R t11.1 HR HS HN t11.2.2 t11.2.1 v250 x1 hf H locs ls hP hD hS (lv_sub hl [0, 1, 2, 3, 4] rfl)
  · have hf := kIfF c277 hf
    refine lv_aload_n hx hb dL_isForetold_20 rfl (lv_at hl 3 rfl) ?_
    refine lv_iload hx hb dL_isForetold_21 (lv_at hl 0 rfl) ?_
    obtain ⟨v278, h279, hf⟩ := kBind hf
    refine kgoA (krunV (wc := (wX3 cI a0 a1 a2 a3 a4 a5 a6 a7 a8 a9 a10 a11 R t11.1 HR HS HN TB LN PS TC TW TG CM)) (As := [.int t11.2.2]) (rest := []) (ci := 3) hx hb hml hown hts hK (kX3_done l D cI fu a0 a1 a2 a3 a4 a5 a6 a7 a8 a9 a10 a11 R t11.1 HR HS HN TB LN PS TC TW TG CM t11.2.2 v278 h279) gL_isForetold_X3_done rfl rfl rfl hdX3_done ⟨Nat.le_of_ble_eq_true rfl, Nat.le_of_ble_eq_true rfl⟩ hP hD rfl rfl rfl rfl hl.1 rfl (Nat.le_of_ble_eq_true rfl) dL_isForetold_23 ⟨Nat.zero_le _, Nat.zero_le _⟩) hD hS hA (fun H locs hP hD hS => ?_)
    refine lv_istore (lv' := [(6, .int v278.1), (5, .int t11.2.2), (4, .int t11.2.1), (2, .long v250), (0, .ref a0), (1, .int x1)]) hx hb dL_isForetold_26 hl (by decide) rfl (fun ls hl => ?_)
    refine lv_iload hx hb dL_isForetold_28 (lv_at hl 0 rfl) ?_
    refine lv_bipush (v := (-100 : Int32)) hx hb dL_isForetold_30 (by decide) ?_
    refine lv_icmp_ne (tgt := 42) hx hb dL_isForetold_32 (by decide) (fun c280 => ?_) (fun c280 => ?_)
    · have hf := kIfF c280 hf
      refine lv_iload hx hb dL_isForetold_42 (lv_at hl 2 rfl) ?_
      refine lv_bipush (v := (-100 : Int32)) hx hb dL_isForetold_44 (by decide) ?_
      refine lv_icmp_eq (tgt := 61) hx hb dL_isForetold_46 (by decide) (fun c281 => ?_) (fun c281 => ?_)
      · have hf := kIfT c281 hf
        refine lv_iload hx hb dL_isForetold_61 (lv_at hl 2 rfl) ?_
        refine lv_istore (lv' := [(4, .int t11.2.1), (6, .int v278.1), (5, .int t11.2.2), (2, .long v250), (0, .ref a0), (1, .int x1)]) hx hb dL_isForetold_63 hl (by decide) rfl (fun ls hl => ?_)
        exact hJ65 v278.2 t11.2.1 v278.1 t11.2.2 hf H locs ls hP hD hS (lv_sub hl [0, 1, 2, 3, 4, 5] rfl)
      · have hf := kIfF c281 hf
        refine lv_iload hx hb dL_isForetold_49 (lv_at hl 0 rfl) ?_
        refine lv_iload hx hb dL_isForetold_51 (lv_at hl 2 rfl) ?_
        refine lv_icmp_le (tgt := 61) hx hb dL_isForetold_53 (by decide) (fun c282 => ?_) (fun c282 => ?_)
        · have hf := kIfT c282 hf
          refine lv_iload hx hb dL_isForetold_61 (lv_at hl 2 rfl) ?_
          refine lv_istore (lv' := [(4, .int t11.2.1), (6, .int v278.1), (5, .int t11.2.2), (2, .long v250), (0, .ref a0), (1, .int x1)]) hx hb dL_isForetold_63 hl (by decide) rfl (fun ls hl => ?_)
          exact hJ65 v278.2 t11.2.1 v278.1 t11.2.2 hf H locs ls hP hD hS (lv_sub hl [0, 1, 2, 3, 4, 5] rfl)
        · have hf := kIfF c282 hf
          refine lv_iload hx hb dL_isForetold_56 (lv_at hl 0 rfl) ?_
          refine lv_goto (tgt := 63) hx hb dL_isForetold_58 (by decide) ?_
          refine lv_istore (lv' := [(4, .int v278.1), (6, .int v278.1), (5, .int t11.2.2), (2, .long v250), (0, .ref a0), (1, .int x1)]) hx hb dL_isForetold_63 hl (by decide) rfl (fun ls hl => ?_)
          exact hJ65 v278.2 v278.1 v278.1 t11.2.2 hf H locs ls hP hD hS (lv_sub hl [0, 1, 2, 3, 4, 5] rfl)
    · have hf := kIfT c280 hf
      refine lv_bipush (v := (-100 : Int32)) hx hb dL_isForetold_35 (by decide) ?_
      refine lv_istore (lv' := [(4, .int (-100 : Int32)), (6, .int v278.1), (5, .int t11.2.2), (2, .long v250), (0, .ref a0), (1, .int x1)]) hx hb dL_isForetold_37 hl (by decide) rfl (fun ls hl => ?_)
      refine lv_goto (tgt := 111) hx hb dL_isForetold_39 (by decide) ?_
      refine lv_iinc (v := t11.2.2 + (1 : Int32)) (lv' := [(5, .int (t11.2.2 + (1 : Int32))), (4, .int (-100 : Int32)), (6, .int v278.1), (2, .long v250), (0, .ref a0), (1, .int x1)]) hx hb dL_isForetold_111 hl (k := 2) rfl rfl (by decide) rfl (fun ls hl => ?_)
      refine lv_goto (tgt := 11) hx hb dL_isForetold_114 (by decide) ?_
      obtain ⟨z283, hz283⟩ : ∃ z : Int32, z = t11.2.2 + (1 : Int32) := ⟨_, rfl⟩
      rw [← hz283] at hf
      have he := (Option.some.inj hf).symm
      have hl : lv_has ls 12 [(5, .int z283), (4, .int (-100 : Int32)), (2, .long v250), (0, .ref a0), (1, .int x1)] := by rw [hz283]; exact lv_sub hl [0, 1, 3, 4, 5] rfl
      exact hI1 _ he H locs ls hP hD hS hl
set_option maxHeartbeats 4000000 in
set_option maxRecDepth 100000 in
theorem kX3_occupants (l : Launch) (D : va_G) (cI : ClassId) (fu : Nat) (a0 a1 a2 a3 a4 a5 a6 a7 a8 a9 a10 a11 : Nat) (R : (Nat → Int32)) (R2 : (Nat → Int32)) (HR : (Nat → Int32)) (HS : Int32) (HN : Int32) (TB : (Nat → Int32)) (LN : Int32) (PS : Int32) (TC : (Nat → Int32)) (TW : (Nat → Int32)) (TG : (Nat → Int32)) (CM : Int32) (x1 : Int32) (o : Int32) (hf : fX3_occupants fu R x1 = some o) : Ct l yX3_occupants wsX3_occupants { frames := 3, cells := 0, slots := 0, locals := 71 } D cI [.ref a0, .int x1] (wX3 cI a0 a1 a2 a3 a4 a5 a6 a7 a8 a9 a10 a11 R R2 HR HS HN TB LN PS TC TW TG CM) (wX3 cI a0 a1 a2 a3 a4 a5 a6 a7 a8 a9 a10 a11 R R2 HR HS HN TB LN PS TC TW TG CM) (some (.int o)) := by
  refine Ct.of (cc := cX3_occupants) (maxL := 2) (ret := (some .int)) (by decide) rfl (Nat.le_of_ble_eq_true rfl) ?_
  intro p e s m args below meth c A F hP hD hS ls hl
  obtain ⟨hx, hb, hml, hr, hown, hts, hlk, hK, hA⟩ := F
  have hown : s.vm.findClass RX3 = some m.cls := hown
  have hl : lv_has ls 2 [(0, .ref a0), (1, .int x1)] := hl
  have hinX3 : ∀ w ∈ wsX30, w ∈ wsX3_occupants := by decide +kernel
  have hfl10 := hts (.fieldLink RX3 10 "CraneGuard" "site" "LCraneGuard$Site;") (by decide +kernel)
  unfold fX3_occupants at hf
  refine lv_iload_n hx hb dX3_occupants_0 rfl (lv_at hl 1 rfl) ?_
  obtain ⟨v6, h7, hf⟩ := kBind hf
  refine kgoR (krunS (wc := ([] : va_W)) (As := [.int x1]) (rest := []) hx hb hml hown hts hK (kX3_isZone l D cI x1 v6 h7) gX3_occupants_X3_isZone rfl rfl rfl hdX3_isZone ⟨Nat.le_of_ble_eq_true rfl, Nat.le_of_ble_eq_true rfl⟩ k_P0 (k_D0 A) rfl hl.1 rfl (Nat.le_of_ble_eq_true rfl) dX3_occupants_1 ⟨Nat.zero_le _, Nat.zero_le _⟩) hP hD hS hA [] rfl (fun H locs hP hS => ?_)
  refine kif_neb (tgt := 10) hx hb dX3_occupants_4 (by decide) (fun c8 => ?_) (fun c8 => ?_)
  · have hf := kIfT c8 hf
    refine lv_aload_n hx hb dX3_occupants_10 rfl (lv_at hl 0 rfl) ?_
    refine va_get (D := D) (ci := 3) (v := .ref a1) (C := RX3) (T := TX3) (N := 4) hx hb hts hinX3 hown hK.1 hP 0 rfl rfl 0 (by decide) hfl10 (fun _ h9 => h9) rfl dX3_occupants_11 ?_
    refine lv_iload_n hx hb dX3_occupants_14 rfl (lv_at hl 1 rfl) ?_
    obtain ⟨v9, h10, hf⟩ := kBind hf
    refine kgoR (krunV (wc := (wX1 cI a1 a2 R)) (As := [.int x1]) (rest := []) (ci := 1) hx hb hml hown hts hK (kX1_occupantsOf l D cI fu a1 a2 R x1 v9 h10) gX3_occupants_X1_occupantsOf rfl rfl rfl hdX1_occupantsOf ⟨Nat.le_of_ble_eq_true rfl, Nat.le_of_ble_eq_true rfl⟩ (hP.sub [1, 2] rfl) (hD.sub [1, 2] (by decide) rfl) rfl rfl rfl rfl hl.1 rfl (Nat.le_of_ble_eq_true rfl) dX3_occupants_15 ⟨Nat.zero_le _, Nat.zero_le _⟩) hP hD hS hA [1, 2] rfl (fun H locs hP hS => ?_)
    have he := Option.some.inj hf
    subst he
    exact kreti hx hb hr hlk hP hD hS dX3_occupants_18
  · have hf := kIfF c8 hf
    refine lv_bipush (v := (-101 : Int32)) hx hb dX3_occupants_7 (by decide) ?_
    have he := Option.some.inj hf
    subst he
    exact kreti hx hb hr hlk hP hD hS dX3_occupants_9
set_option maxHeartbeats 4000000 in
set_option maxRecDepth 100000 in
theorem kX3_arc (l : Launch) (D : va_G) (cI : ClassId) (a0 a1 a2 a3 a4 a5 a6 a7 a8 a9 a10 a11 : Nat) (R : (Nat → Int32)) (R2 : (Nat → Int32)) (HR : (Nat → Int32)) (HS : Int32) (HN : Int32) (TB : (Nat → Int32)) (LN : Int32) (PS : Int32) (TC : (Nat → Int32)) (TW : (Nat → Int32)) (TG : (Nat → Int32)) (CM : Int32) (x1 : Int32) (x2 : Int32) (x3 : Bool) (o : Int32) (hf : fX3_arc R x1 x2 x3 = some o) : Ct l yX3_arc wsX3_arc { frames := 1, cells := 0, slots := 0, locals := 22 } D cI [.ref a0, .int x1, .int x2, .int (bI x3)] (wX3 cI a0 a1 a2 a3 a4 a5 a6 a7 a8 a9 a10 a11 R R2 HR HS HN TB LN PS TC TW TG CM) (wX3 cI a0 a1 a2 a3 a4 a5 a6 a7 a8 a9 a10 a11 R R2 HR HS HN TB LN PS TC TW TG CM) (some (.int o)) := by
  refine Ct.of (cc := cX3_arc) (maxL := 4) (ret := (some .int)) (by decide) rfl (Nat.le_of_ble_eq_true rfl) ?_
  intro p e s m args below meth c A F hP hD hS ls hl
  obtain ⟨hx, hb, hml, hr, hown, hts, hlk, hK, hA⟩ := F
  have hown : s.vm.findClass RX3 = some m.cls := hown
  have hl : lv_has ls 4 [(0, .ref a0), (1, .int x1), (2, .int x2), (3, .int (bI x3))] := hl
  have hinX3 : ∀ w ∈ wsX30, w ∈ wsX3_arc := by decide +kernel
  have hfl10 := hts (.fieldLink RX3 10 "CraneGuard" "site" "LCraneGuard$Site;") (by decide +kernel)
  unfold fX3_arc at hf
  refine lv_aload_n hx hb dX3_arc_0 rfl (lv_at hl 0 rfl) ?_
  refine va_get (D := D) (ci := 3) (v := .ref a1) (C := RX3) (T := TX3) (N := 4) hx hb hts hinX3 hown hK.1 hP 0 rfl rfl 0 (by decide) hfl10 (fun _ h9 => h9) rfl dX3_arc_1 ?_
  refine lv_iload_n hx hb dX3_arc_4 rfl (lv_at hl 1 rfl) ?_
  obtain ⟨v12, h13, hf⟩ := kBind hf
  refine kgoR (krunV (wc := (wX1 cI a1 a2 R)) (As := [.int x1]) (rest := []) (ci := 1) hx hb hml hown hts hK (kX1_hasCrane l D cI a1 a2 R x1 v12 h13) gX3_arc_X1_hasCrane rfl rfl rfl hdX1_hasCrane ⟨Nat.le_of_ble_eq_true rfl, Nat.le_of_ble_eq_true rfl⟩ (hP.sub [1, 2] rfl) (hD.sub [1, 2] (by decide) rfl) rfl rfl rfl rfl hl.1 rfl (Nat.le_of_ble_eq_true rfl) dX3_arc_5 ⟨Nat.zero_le _, Nat.zero_le _⟩) hP hD hS hA [1, 2] rfl (fun H locs hP hS => ?_)
  refine kif_eqb (tgt := 18) hx hb dX3_arc_8 (by decide) (fun c14 => ?_) (fun c14 => ?_)
  · have hf := kIfF c14 hf
    refine lv_bipush (v := (-101 : Int32)) hx hb dX3_arc_18 (by decide) ?_
    have he := Option.some.inj hf
    subst he
    exact kreti hx hb hr hlk hP hD hS dX3_arc_20
  · have hf := kIfT c14 hf
    refine lv_iload_n hx hb dX3_arc_11 rfl (lv_at hl 2 rfl) ?_
    obtain ⟨v15, h16, hf⟩ := kBind hf
    refine kgoR (krunS (wc := ([] : va_W)) (As := [.int x2]) (rest := []) hx hb hml hown hts hK (kX3_isZone l D cI x2 v15 h16) gX3_arc_X3_isZone rfl rfl rfl hdX3_isZone ⟨Nat.le_of_ble_eq_true rfl, Nat.le_of_ble_eq_true rfl⟩ k_P0 (k_D0 A) rfl hl.1 rfl (Nat.le_of_ble_eq_true rfl) dX3_arc_12 ⟨Nat.zero_le _, Nat.zero_le _⟩) hP hD hS hA [] rfl (fun H locs hP hS => ?_)
    refine kif_neb (tgt := 21) hx hb dX3_arc_15 (by decide) (fun c17 => ?_) (fun c17 => ?_)
    · have hf := kIfT c17 hf
      refine lv_iload_n hx hb dX3_arc_21 rfl (lv_at hl 3 rfl) ?_
      refine kif_eqb (tgt := 37) hx hb dX3_arc_22 (by decide) (fun c18 => ?_) (fun c18 => ?_)
      · have hf := kIfF c18 hf
        refine lv_aload_n hx hb dX3_arc_37 rfl (lv_at hl 0 rfl) ?_
        refine va_get (D := D) (ci := 3) (v := .ref a1) (C := RX3) (T := TX3) (N := 4) hx hb hts hinX3 hown hK.1 hP 0 rfl rfl 0 (by decide) hfl10 (fun _ h9 => h9) rfl dX3_arc_38 ?_
        refine lv_iload_n hx hb dX3_arc_41 rfl (lv_at hl 1 rfl) ?_
        refine lv_iload_n hx hb dX3_arc_42 rfl (lv_at hl 2 rfl) ?_
        obtain ⟨v19, h20, hf⟩ := kBind hf
        refine kgoR (krunV (wc := (wX1 cI a1 a2 R)) (As := [.int x1, .int x2]) (rest := []) (ci := 1) hx hb hml hown hts hK (kX1_firstOf l D cI a1 a2 R x1 x2 v19 h20) gX3_arc_X1_firstOf rfl rfl rfl hdX1_firstOf ⟨Nat.le_of_ble_eq_true rfl, Nat.le_of_ble_eq_true rfl⟩ (hP.sub [1, 2] rfl) (hD.sub [1, 2] (by decide) rfl) rfl rfl rfl rfl hl.1 rfl (Nat.le_of_ble_eq_true rfl) dX3_arc_43 ⟨Nat.zero_le _, Nat.zero_le _⟩) hP hD hS hA [1, 2] rfl (fun H locs hP hS => ?_)
        have he := Option.some.inj hf
        subst he
        exact kreti hx hb hr hlk hP hD hS dX3_arc_46
      · have hf := kIfT c18 hf
        refine lv_aload_n hx hb dX3_arc_25 rfl (lv_at hl 0 rfl) ?_
        refine va_get (D := D) (ci := 3) (v := .ref a1) (C := RX3) (T := TX3) (N := 4) hx hb hts hinX3 hown hK.1 hP 0 rfl rfl 0 (by decide) hfl10 (fun _ h9 => h9) rfl dX3_arc_26 ?_
        refine lv_iload_n hx hb dX3_arc_29 rfl (lv_at hl 1 rfl) ?_
        refine lv_iload_n hx hb dX3_arc_30 rfl (lv_at hl 2 rfl) ?_
        obtain ⟨v21, h22, hf⟩ := kBind hf
        refine kgoR (krunV (wc := (wX1 cI a1 a2 R)) (As := [.int x1, .int x2]) (rest := []) (ci := 1) hx hb hml hown hts hK (kX1_lastOf l D cI a1 a2 R x1 x2 v21 h22) gX3_arc_X1_lastOf rfl rfl rfl hdX1_lastOf ⟨Nat.le_of_ble_eq_true rfl, Nat.le_of_ble_eq_true rfl⟩ (hP.sub [1, 2] rfl) (hD.sub [1, 2] (by decide) rfl) rfl rfl rfl rfl hl.1 rfl (Nat.le_of_ble_eq_true rfl) dX3_arc_31 ⟨Nat.zero_le _, Nat.zero_le _⟩) hP hD hS hA [1, 2] rfl (fun H locs hP hS => ?_)
        refine lv_goto (tgt := 46) hx hb dX3_arc_34 (by decide) ?_
        have he := Option.some.inj hf
        subst he
        exact kreti hx hb hr hlk hP hD hS dX3_arc_46
    · have hf := kIfF c17 hf
      refine lv_bipush (v := (-101 : Int32)) hx hb dX3_arc_18 (by decide) ?_
      have he := Option.some.inj hf
      subst he
      exact kreti hx hb hr hlk hP hD hS dX3_arc_20
set_option maxHeartbeats 4000000 in
set_option maxRecDepth 100000 in
theorem kX1_conflictSet (l : Launch) (D : va_G) (cI : ClassId) (fu : Nat) (a0 a1 : Nat) (R : (Nat → Int32)) (o : Int32) (hf : fX1_conflictSet fu R = some o) : Ct l yX1_conflictSet wsX1_conflictSet { frames := 4, cells := 0, slots := 0, locals := 92 } D cI [.ref a0] (wX1 cI a0 a1 R) (wX1 cI a0 a1 R) (some (.int o)) := by
  refine Ct.of (cc := cX1_conflictSet) (maxL := 3) (ret := (some .int)) (by decide) rfl (Nat.le_of_ble_eq_true rfl) ?_
  intro p e s m args below meth c A F hP hD hS ls hl
  obtain ⟨hx, hb, hml, hr, hown, hts, hlk, hK, hA⟩ := F
  have hown : s.vm.findClass RX1 = some m.cls := hown
  have hl : lv_has ls 3 [(0, .ref a0)] := hl
  unfold fX1_conflictSet at hf
  refine lv_iconst (v := (0 : Int32)) hx hb dX1_conflictSet_0 (by decide) ?_
  refine lv_istore_n (lv' := [(1, .int (0 : Int32)), (0, .ref a0)]) hx hb dX1_conflictSet_1 rfl hl (by decide) rfl (fun ls hl => ?_)
  refine lv_iconst (v := (0 : Int32)) hx hb dX1_conflictSet_2 (by decide) ?_
  refine lv_istore_n (lv' := [(2, .int (0 : Int32)), (1, .int (0 : Int32)), (0, .ref a0)]) hx hb dX1_conflictSet_3 rfl hl (by decide) rfl (fun ls hl => ?_)
  have hl : lv_has ls 3 [(2, .int (0 : Int32)), (1, .int (0 : Int32)), (0, .ref a0)] := hl
  refine klp hf (fun t4 : Int32 × Int32 => (wX1 cI a0 a1 R)) 3 (fun t4 : Int32 × Int32 => [(2, .int t4.2), (1, .int t4.1), (0, .ref a0)]) ?_ hP hD hS hl
  intro t4 x4_ hf hI1 hO1 H locs ls hP hD hS hl
  unfold fX1_conflictSet_L4 at hf
  have hP : va_P D vwCl (wX1 cI a0 a1 R) H := hP
  have hD : va_D A (wX1 cI a0 a1 R) := hD
  have hl : lv_has ls 3 [(2, .int t4.2), (1, .int t4.1), (0, .ref a0)] := hl
  refine lv_iload_n hx hb dX1_conflictSet_4 rfl (lv_at hl 0 rfl) ?_
  refine lv_bipush (v := (6 : Int32)) hx hb dX1_conflictSet_5 (by decide) ?_
  refine lv_icmp_ge (tgt := 30) hx hb dX1_conflictSet_7 (by decide) (fun c15 => ?_) (fun c15 => ?_)
  · have hf := kIfT c15 hf
    refine lv_iload_n hx hb dX1_conflictSet_30 rfl (lv_at hl 1 rfl) ?_
    have he := Option.some.inj hf
    have he := hO1 _ he.symm
    subst he
    exact kreti hx hb hr hlk hP hD hS dX1_conflictSet_31
  · have hf := kIfF c15 hf
    refine lv_aload_n hx hb dX1_conflictSet_10 rfl (lv_at hl 2 rfl) ?_
    refine lv_iload_n hx hb dX1_conflictSet_11 rfl (lv_at hl 0 rfl) ?_
    obtain ⟨v16, h17, hf⟩ := kBind hf
    refine kgoR (krunV (wc := (wX1 cI a0 a1 R)) (As := [.int t4.2]) (rest := []) (ci := 1) hx hb hml hown hts hK (kX1_isConflict l D cI fu a0 a1 R t4.2 v16 h17) gX1_conflictSet_X1_isConflict rfl rfl rfl hdX1_isConflict ⟨Nat.le_of_ble_eq_true rfl, Nat.le_of_ble_eq_true rfl⟩ hP hD rfl rfl rfl rfl hl.1 rfl (Nat.le_of_ble_eq_true rfl) dX1_conflictSet_12 ⟨Nat.zero_le _, Nat.zero_le _⟩) hP hD hS hA [0, 1] rfl (fun H locs hP hS => ?_)
    refine kif_eqb (tgt := 24) hx hb dX1_conflictSet_15 (by decide) (fun c18 => ?_) (fun c18 => ?_)
    · have hf := kIfF c18 hf
      refine lv_iinc (v := t4.2 + (1 : Int32)) (lv' := [(2, .int (t4.2 + (1 : Int32))), (1, .int t4.1), (0, .ref a0)]) hx hb dX1_conflictSet_24 hl (k := 0) rfl rfl (by decide) rfl (fun ls hl => ?_)
      refine lv_goto (tgt := 4) hx hb dX1_conflictSet_27 (by decide) ?_
      obtain ⟨z19, hz19⟩ : ∃ z : Int32, z = t4.2 + (1 : Int32) := ⟨_, rfl⟩
      rw [← hz19] at hf
      have he := (Option.some.inj hf).symm
      have hl : lv_has ls 3 [(2, .int z19), (1, .int t4.1), (0, .ref a0)] := by rw [hz19]; exact lv_sub hl [0, 1, 2] rfl
      exact hI1 _ he H locs ls hP hD hS hl
    · have hf := kIfT c18 hf
      refine lv_iload_n hx hb dX1_conflictSet_18 rfl (lv_at hl 1 rfl) ?_
      refine lv_iconst (v := (1 : Int32)) hx hb dX1_conflictSet_19 (by decide) ?_
      refine lv_iload_n hx hb dX1_conflictSet_20 rfl (lv_at hl 0 rfl) ?_
      refine kishl hx hb dX1_conflictSet_21 ?_
      refine lv_ior hx hb dX1_conflictSet_22 ?_
      refine lv_istore_n (lv' := [(1, .int (t4.1 ||| (jshl (1 : Int32) t4.2))), (2, .int t4.2), (0, .ref a0)]) hx hb dX1_conflictSet_23 rfl hl (by decide) rfl (fun ls hl => ?_)
      refine lv_iinc (v := t4.2 + (1 : Int32)) (lv' := [(2, .int (t4.2 + (1 : Int32))), (1, .int (t4.1 ||| (jshl (1 : Int32) t4.2))), (0, .ref a0)]) hx hb dX1_conflictSet_24 hl (k := 1) rfl rfl (by decide) rfl (fun ls hl => ?_)
      refine lv_goto (tgt := 4) hx hb dX1_conflictSet_27 (by decide) ?_
      obtain ⟨z20, hz20⟩ : ∃ z : Int32, z = t4.1 ||| (jshl (1 : Int32) t4.2) := ⟨_, rfl⟩
      rw [← hz20] at hf
      obtain ⟨z21, hz21⟩ : ∃ z : Int32, z = t4.2 + (1 : Int32) := ⟨_, rfl⟩
      rw [← hz21] at hf
      have he := (Option.some.inj hf).symm
      have hl : lv_has ls 3 [(2, .int z21), (1, .int z20), (0, .ref a0)] := by rw [hz20, hz21]; exact lv_sub hl [0, 1, 2] rfl
      exact hI1 _ he H locs ls hP hD hS hl
set_option maxHeartbeats 4000000 in
set_option maxRecDepth 100000 in
theorem kX3_conflicts (l : Launch) (D : va_G) (cI : ClassId) (fu : Nat) (a0 a1 a2 a3 a4 a5 a6 a7 a8 a9 a10 a11 : Nat) (R : (Nat → Int32)) (R2 : (Nat → Int32)) (HR : (Nat → Int32)) (HS : Int32) (HN : Int32) (TB : (Nat → Int32)) (LN : Int32) (PS : Int32) (TC : (Nat → Int32)) (TW : (Nat → Int32)) (TG : (Nat → Int32)) (CM : Int32) (o : Int32) (hf : fX3_conflicts fu R = some o) : Ct l yX3_conflicts wsX3_conflicts { frames := 5, cells := 0, slots := 0, locals := 114 } D cI [.ref a0] (wX3 cI a0 a1 a2 a3 a4 a5 a6 a7 a8 a9 a10 a11 R R2 HR HS HN TB LN PS TC TW TG CM) (wX3 cI a0 a1 a2 a3 a4 a5 a6 a7 a8 a9 a10 a11 R R2 HR HS HN TB LN PS TC TW TG CM) (some (.int o)) := by
  refine Ct.of (cc := cX3_conflicts) (maxL := 1) (ret := (some .int)) (by decide) rfl (Nat.le_of_ble_eq_true rfl) ?_
  intro p e s m args below meth c A F hP hD hS ls hl
  obtain ⟨hx, hb, hml, hr, hown, hts, hlk, hK, hA⟩ := F
  have hown : s.vm.findClass RX3 = some m.cls := hown
  have hl : lv_has ls 1 [(0, .ref a0)] := hl
  have hinX3 : ∀ w ∈ wsX30, w ∈ wsX3_conflicts := by decide +kernel
  have hfl10 := hts (.fieldLink RX3 10 "CraneGuard" "site" "LCraneGuard$Site;") (by decide +kernel)
  unfold fX3_conflicts at hf
  refine lv_aload_n hx hb dX3_conflicts_0 rfl (lv_at hl 0 rfl) ?_
  refine va_get (D := D) (ci := 3) (v := .ref a1) (C := RX3) (T := TX3) (N := 4) hx hb hts hinX3 hown hK.1 hP 0 rfl rfl 0 (by decide) hfl10 (fun _ h9 => h9) rfl dX3_conflicts_1 ?_
  obtain ⟨v3, h4, hf⟩ := kBind hf
  refine kgoR (krunV (wc := (wX1 cI a1 a2 R)) (As := []) (rest := []) (ci := 1) hx hb hml hown hts hK (kX1_conflictSet l D cI fu a1 a2 R v3 h4) gX3_conflicts_X1_conflictSet rfl rfl rfl hdX1_conflictSet ⟨Nat.le_of_ble_eq_true rfl, Nat.le_of_ble_eq_true rfl⟩ (hP.sub [1, 2] rfl) (hD.sub [1, 2] (by decide) rfl) rfl rfl rfl rfl hl.1 rfl (Nat.le_of_ble_eq_true rfl) dX3_conflicts_4 ⟨Nat.zero_le _, Nat.zero_le _⟩) hP hD hS hA [1, 2] rfl (fun H locs hP hS => ?_)
  have he := Option.some.inj hf
  subst he
  exact kreti hx hb hr hlk hP hD hS dX3_conflicts_7
set_option maxHeartbeats 4000000 in
set_option maxRecDepth 100000 in
theorem kX1_blockersLeadBackTo (l : Launch) (D : va_G) (cI : ClassId) (fu : Nat) (a0 a1 : Nat) (R : (Nat → Int32)) (x1 : Int32) (o : Bool) (hf : fX1_blockersLeadBackTo fu R x1 = some o) : Ct l yX1_blockersLeadBackTo wsX1_blockersLeadBackTo { frames := 3, cells := 0, slots := 0, locals := 71 } D cI [.ref a0, .int x1] (wX1 cI a0 a1 R) (wX1 cI a0 a1 R) (some (.int (bI o))) := by
  refine Ct.of (cc := cX1_blockersLeadBackTo) (maxL := 4) (ret := (some .boolean)) (by decide) rfl (Nat.le_of_ble_eq_true rfl) ?_
  intro p e s m args below meth c A F hP hD hS ls hl
  obtain ⟨hx, hb, hml, hr, hown, hts, hlk, hK, hA⟩ := F
  have hown : s.vm.findClass RX1 = some m.cls := hown
  have hl : lv_has ls 4 [(0, .ref a0), (1, .int x1)] := hl
  unfold fX1_blockersLeadBackTo at hf
  refine lv_iload_n hx hb dX1_blockersLeadBackTo_0 rfl (lv_at hl 1 rfl) ?_
  refine lv_istore_n (lv' := [(2, .int x1), (0, .ref a0), (1, .int x1)]) hx hb dX1_blockersLeadBackTo_1 rfl hl (by decide) rfl (fun ls hl => ?_)
  refine lv_iconst (v := (0 : Int32)) hx hb dX1_blockersLeadBackTo_2 (by decide) ?_
  refine lv_istore_n (lv' := [(3, .int (0 : Int32)), (2, .int x1), (0, .ref a0), (1, .int x1)]) hx hb dX1_blockersLeadBackTo_3 rfl hl (by decide) rfl (fun ls hl => ?_)
  have hl : lv_has ls 4 [(3, .int (0 : Int32)), (2, .int x1), (0, .ref a0), (1, .int x1)] := hl
  refine klp hf (fun t4 : Int32 × Int32 => (wX1 cI a0 a1 R)) 4 (fun t4 : Int32 × Int32 => [(3, .int t4.2), (2, .int t4.1), (0, .ref a0), (1, .int x1)]) ?_ hP hD hS hl
  intro t4 x4_ hf hI1 hO1 H locs ls hP hD hS hl
  unfold fX1_blockersLeadBackTo_L4 at hf
  have hP : va_P D vwCl (wX1 cI a0 a1 R) H := hP
  have hD : va_D A (wX1 cI a0 a1 R) := hD
  have hl : lv_has ls 4 [(3, .int t4.2), (2, .int t4.1), (0, .ref a0), (1, .int x1)] := hl
  refine lv_iload_n hx hb dX1_blockersLeadBackTo_4 rfl (lv_at hl 0 rfl) ?_
  refine lv_iconst (v := (4 : Int32)) hx hb dX1_blockersLeadBackTo_5 (by decide) ?_
  refine lv_icmp_ge (tgt := 43) hx hb dX1_blockersLeadBackTo_6 (by decide) (fun c17 => ?_) (fun c17 => ?_)
  · have hf := kIfT c17 hf
    refine lv_iconst (v := (0 : Int32)) hx hb dX1_blockersLeadBackTo_43 (by decide) ?_
    have he := Option.some.inj hf
    have he := hO1 _ he.symm
    subst he
    exact kretz hx hb hr hlk hP hD hS dX1_blockersLeadBackTo_44
  · have hf := kIfF c17 hf
    refine lv_aload_n hx hb dX1_blockersLeadBackTo_9 rfl (lv_at hl 2 rfl) ?_
    refine lv_iload_n hx hb dX1_blockersLeadBackTo_10 rfl (lv_at hl 1 rfl) ?_
    obtain ⟨v18, h19, hf⟩ := kBind hf
    refine kgoR (krunV (wc := (wX1 cI a0 a1 R)) (As := [.int t4.1]) (rest := []) (ci := 1) hx hb hml hown hts hK (kX1_blockerOf l D cI fu a0 a1 R t4.1 v18 h19) gX1_blockersLeadBackTo_X1_blockerOf rfl rfl rfl hdX1_blockerOf ⟨Nat.le_of_ble_eq_true rfl, Nat.le_of_ble_eq_true rfl⟩ hP hD rfl rfl rfl rfl hl.1 rfl (Nat.le_of_ble_eq_true rfl) dX1_blockersLeadBackTo_11 ⟨Nat.zero_le _, Nat.zero_le _⟩) hP hD hS hA [0, 1] rfl (fun H locs hP hS => ?_)
    refine lv_istore_n (lv' := [(2, .int v18), (3, .int t4.2), (0, .ref a0), (1, .int x1)]) hx hb dX1_blockersLeadBackTo_14 rfl hl (by decide) rfl (fun ls hl => ?_)
    refine lv_iload_n hx hb dX1_blockersLeadBackTo_15 rfl (lv_at hl 0 rfl) ?_
    refine lv_bipush (v := (-100 : Int32)) hx hb dX1_blockersLeadBackTo_16 (by decide) ?_
    refine lv_icmp_eq (tgt := 26) hx hb dX1_blockersLeadBackTo_18 (by decide) (fun c20 => ?_) (fun c20 => ?_)
    · have hf := kIfT c20 hf
      refine lv_iload_n hx hb dX1_blockersLeadBackTo_26 rfl (lv_at hl 0 rfl) ?_
      refine lv_iload_n hx hb dX1_blockersLeadBackTo_27 rfl (lv_at hl 3 rfl) ?_
      refine lv_icmp_ne (tgt := 35) hx hb dX1_blockersLeadBackTo_28 (by decide) (fun c21 => ?_) (fun c21 => ?_)
      · have hf := kIfF c21 hf
        refine lv_iconst (v := (0 : Int32)) hx hb dX1_blockersLeadBackTo_35 (by decide) ?_
        have he := Option.some.inj hf
        have he := hO1 _ he.symm
        subst he
        exact kretz hx hb hr hlk hP hD hS dX1_blockersLeadBackTo_36
      · have hf := kIfT c21 hf
        refine lv_iconst (v := (1 : Int32)) hx hb dX1_blockersLeadBackTo_31 (by decide) ?_
        refine lv_goto (tgt := 36) hx hb dX1_blockersLeadBackTo_32 (by decide) ?_
        have he := Option.some.inj hf
        have he := hO1 _ he.symm
        subst he
        exact kretz hx hb hr hlk hP hD hS dX1_blockersLeadBackTo_36
    · have hf := kIfF c20 hf
      refine lv_iload_n hx hb dX1_blockersLeadBackTo_21 rfl (lv_at hl 0 rfl) ?_
      refine lv_iload_n hx hb dX1_blockersLeadBackTo_22 rfl (lv_at hl 3 rfl) ?_
      refine lv_icmp_ne (tgt := 37) hx hb dX1_blockersLeadBackTo_23 (by decide) (fun c22 => ?_) (fun c22 => ?_)
      · have hf := kIfF c22 hf
        refine lv_iinc (v := t4.2 + (1 : Int32)) (lv' := [(3, .int (t4.2 + (1 : Int32))), (2, .int v18), (0, .ref a0), (1, .int x1)]) hx hb dX1_blockersLeadBackTo_37 hl (k := 1) rfl rfl (by decide) rfl (fun ls hl => ?_)
        refine lv_goto (tgt := 4) hx hb dX1_blockersLeadBackTo_40 (by decide) ?_
        obtain ⟨z23, hz23⟩ : ∃ z : Int32, z = t4.2 + (1 : Int32) := ⟨_, rfl⟩
        rw [← hz23] at hf
        have he := (Option.some.inj hf).symm
        have hl : lv_has ls 4 [(3, .int z23), (2, .int v18), (0, .ref a0), (1, .int x1)] := by rw [hz23]; exact lv_sub hl [0, 1, 2, 3] rfl
        exact hI1 _ he H locs ls hP hD hS hl
      · have hf := kIfT c22 hf
        refine lv_iload_n hx hb dX1_blockersLeadBackTo_26 rfl (lv_at hl 0 rfl) ?_
        refine lv_iload_n hx hb dX1_blockersLeadBackTo_27 rfl (lv_at hl 3 rfl) ?_
        refine lv_icmp_ne (tgt := 35) hx hb dX1_blockersLeadBackTo_28 (by decide) (fun c24 => ?_) (fun c24 => ?_)
        · have hf := kIfF c24 hf
          refine lv_iconst (v := (0 : Int32)) hx hb dX1_blockersLeadBackTo_35 (by decide) ?_
          have he := Option.some.inj hf
          have he := hO1 _ he.symm
          subst he
          exact kretz hx hb hr hlk hP hD hS dX1_blockersLeadBackTo_36
        · have hf := kIfT c24 hf
          refine lv_iconst (v := (1 : Int32)) hx hb dX1_blockersLeadBackTo_31 (by decide) ?_
          refine lv_goto (tgt := 36) hx hb dX1_blockersLeadBackTo_32 (by decide) ?_
          have he := Option.some.inj hf
          have he := hO1 _ he.symm
          subst he
          exact kretz hx hb hr hlk hP hD hS dX1_blockersLeadBackTo_36
set_option maxHeartbeats 4000000 in
set_option maxRecDepth 100000 in
theorem kX1_cycleSet (l : Launch) (D : va_G) (cI : ClassId) (fu : Nat) (a0 a1 : Nat) (R : (Nat → Int32)) (o : Int32) (hf : fX1_cycleSet fu R = some o) : Ct l yX1_cycleSet wsX1_cycleSet { frames := 4, cells := 0, slots := 0, locals := 94 } D cI [.ref a0] (wX1 cI a0 a1 R) (wX1 cI a0 a1 R) (some (.int o)) := by
  refine Ct.of (cc := cX1_cycleSet) (maxL := 3) (ret := (some .int)) (by decide) rfl (Nat.le_of_ble_eq_true rfl) ?_
  intro p e s m args below meth c A F hP hD hS ls hl
  obtain ⟨hx, hb, hml, hr, hown, hts, hlk, hK, hA⟩ := F
  have hown : s.vm.findClass RX1 = some m.cls := hown
  have hl : lv_has ls 3 [(0, .ref a0)] := hl
  have hinX1 : ∀ w ∈ wsX10, w ∈ wsX1_cycleSet := by decide +kernel
  have hfl11 := hts (.fieldLink RX1 11 "CraneGuard$Site" "row" "[I") (by decide +kernel)
  unfold fX1_cycleSet at hf
  refine lv_iconst (v := (0 : Int32)) hx hb dX1_cycleSet_0 (by decide) ?_
  refine lv_istore_n (lv' := [(1, .int (0 : Int32)), (0, .ref a0)]) hx hb dX1_cycleSet_1 rfl hl (by decide) rfl (fun ls hl => ?_)
  refine lv_iconst (v := (0 : Int32)) hx hb dX1_cycleSet_2 (by decide) ?_
  refine lv_istore_n (lv' := [(2, .int (0 : Int32)), (1, .int (0 : Int32)), (0, .ref a0)]) hx hb dX1_cycleSet_3 rfl hl (by decide) rfl (fun ls hl => ?_)
  have hl : lv_has ls 3 [(2, .int (0 : Int32)), (1, .int (0 : Int32)), (0, .ref a0)] := hl
  refine klp hf (fun t4 : Int32 × Int32 => (wX1 cI a0 a1 R)) 3 (fun t4 : Int32 × Int32 => [(2, .int t4.2), (1, .int t4.1), (0, .ref a0)]) ?_ hP hD hS hl
  intro t4 x4_ hf hI1 hO1 H locs ls hP hD hS hl
  unfold fX1_cycleSet_L4 at hf
  have hP : va_P D vwCl (wX1 cI a0 a1 R) H := hP
  have hD : va_D A (wX1 cI a0 a1 R) := hD
  have hl : lv_has ls 3 [(2, .int t4.2), (1, .int t4.1), (0, .ref a0)] := hl
  refine lv_iload_n hx hb dX1_cycleSet_4 rfl (lv_at hl 0 rfl) ?_
  refine lv_aload_n hx hb dX1_cycleSet_5 rfl (lv_at hl 2 rfl) ?_
  refine va_get (D := D) (ci := 1) (v := .ref a1) (C := RX1) (T := TX1) (N := 1) hx hb hts hinX1 hown hK.1 hP 0 rfl rfl 0 (by decide) hfl11 (fun _ h9 => h9) rfl dX1_cycleSet_6 ?_
  refine lv_iconst (v := (2 : Int32)) hx hb dX1_cycleSet_9 (by decide) ?_
  obtain ⟨v19, h20, hf⟩ := kBind hf
  refine krd hx hb hK hP 1 rfl h20 dX1_cycleSet_10 ?_
  refine lv_icmp_ge (tgt := 34) hx hb dX1_cycleSet_11 (by decide) (fun c21 => ?_) (fun c21 => ?_)
  · have hf := kIfT c21 hf
    refine lv_iload_n hx hb dX1_cycleSet_34 rfl (lv_at hl 1 rfl) ?_
    have he := Option.some.inj hf
    have he := hO1 _ he.symm
    subst he
    exact kreti hx hb hr hlk hP hD hS dX1_cycleSet_35
  · have hf := kIfF c21 hf
    refine lv_aload_n hx hb dX1_cycleSet_14 rfl (lv_at hl 2 rfl) ?_
    refine lv_iload_n hx hb dX1_cycleSet_15 rfl (lv_at hl 0 rfl) ?_
    obtain ⟨v22, h23, hf⟩ := kBind hf
    refine kgoR (krunV (wc := (wX1 cI a0 a1 R)) (As := [.int t4.2]) (rest := []) (ci := 1) hx hb hml hown hts hK (kX1_blockersLeadBackTo l D cI fu a0 a1 R t4.2 v22 h23) gX1_cycleSet_X1_blockersLeadBackTo rfl rfl rfl hdX1_blockersLeadBackTo ⟨Nat.le_of_ble_eq_true rfl, Nat.le_of_ble_eq_true rfl⟩ hP hD rfl rfl rfl rfl hl.1 rfl (Nat.le_of_ble_eq_true rfl) dX1_cycleSet_16 ⟨Nat.zero_le _, Nat.zero_le _⟩) hP hD hS hA [0, 1] rfl (fun H locs hP hS => ?_)
    refine kif_eqb (tgt := 28) hx hb dX1_cycleSet_19 (by decide) (fun c24 => ?_) (fun c24 => ?_)
    · have hf := kIfF c24 hf
      refine lv_iinc (v := t4.2 + (1 : Int32)) (lv' := [(2, .int (t4.2 + (1 : Int32))), (1, .int t4.1), (0, .ref a0)]) hx hb dX1_cycleSet_28 hl (k := 0) rfl rfl (by decide) rfl (fun ls hl => ?_)
      refine lv_goto (tgt := 4) hx hb dX1_cycleSet_31 (by decide) ?_
      obtain ⟨z25, hz25⟩ : ∃ z : Int32, z = t4.2 + (1 : Int32) := ⟨_, rfl⟩
      rw [← hz25] at hf
      have he := (Option.some.inj hf).symm
      have hl : lv_has ls 3 [(2, .int z25), (1, .int t4.1), (0, .ref a0)] := by rw [hz25]; exact lv_sub hl [0, 1, 2] rfl
      exact hI1 _ he H locs ls hP hD hS hl
    · have hf := kIfT c24 hf
      refine lv_iload_n hx hb dX1_cycleSet_22 rfl (lv_at hl 1 rfl) ?_
      refine lv_iconst (v := (1 : Int32)) hx hb dX1_cycleSet_23 (by decide) ?_
      refine lv_iload_n hx hb dX1_cycleSet_24 rfl (lv_at hl 0 rfl) ?_
      refine kishl hx hb dX1_cycleSet_25 ?_
      refine lv_ior hx hb dX1_cycleSet_26 ?_
      refine lv_istore_n (lv' := [(1, .int (t4.1 ||| (jshl (1 : Int32) t4.2))), (2, .int t4.2), (0, .ref a0)]) hx hb dX1_cycleSet_27 rfl hl (by decide) rfl (fun ls hl => ?_)
      refine lv_iinc (v := t4.2 + (1 : Int32)) (lv' := [(2, .int (t4.2 + (1 : Int32))), (1, .int (t4.1 ||| (jshl (1 : Int32) t4.2))), (0, .ref a0)]) hx hb dX1_cycleSet_28 hl (k := 1) rfl rfl (by decide) rfl (fun ls hl => ?_)
      refine lv_goto (tgt := 4) hx hb dX1_cycleSet_31 (by decide) ?_
      obtain ⟨z26, hz26⟩ : ∃ z : Int32, z = t4.1 ||| (jshl (1 : Int32) t4.2) := ⟨_, rfl⟩
      rw [← hz26] at hf
      obtain ⟨z27, hz27⟩ : ∃ z : Int32, z = t4.2 + (1 : Int32) := ⟨_, rfl⟩
      rw [← hz27] at hf
      have he := (Option.some.inj hf).symm
      have hl : lv_has ls 3 [(2, .int z27), (1, .int z26), (0, .ref a0)] := by rw [hz26, hz27]; exact lv_sub hl [0, 1, 2] rfl
      exact hI1 _ he H locs ls hP hD hS hl
