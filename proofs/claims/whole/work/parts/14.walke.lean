set_option maxHeartbeats 4000000 in
set_option maxRecDepth 100000 in
theorem kX3_clearNotes (l : Launch) (D : va_G) (cI : ClassId) (a0 a1 a2 a3 a4 a5 a6 a7 a8 a9 a10 a11 : Nat) (R : (Nat → Int32)) (R2 : (Nat → Int32)) (HR : (Nat → Int32)) (HS : Int32) (HN : Int32) (TB : (Nat → Int32)) (LN : Int32) (PS : Int32) (TC : (Nat → Int32)) (TW : (Nat → Int32)) (TG : (Nat → Int32)) (CM : Int32) (o : Int32 × (Nat → Int32) × (Nat → Int32) × Int32 × Int32) (hf : fX3_clearNotes R HR HS HN = some o) : Ct l yX3_clearNotes wsX3_clearNotes { frames := 3, cells := 0, slots := 0, locals := 61 } D cI [.ref a0] (wX3 cI a0 a1 a2 a3 a4 a5 a6 a7 a8 a9 a10 a11 R R2 HR HS HN TB LN PS TC TW TG CM) (wX3 cI a0 a1 a2 a3 a4 a5 a6 a7 a8 a9 a10 a11 o.2.1 R2 o.2.2.1 o.2.2.2.1 o.2.2.2.2 TB LN PS TC TW TG CM) (some (.int o.1)) := by
  refine Ct.of (cc := cX3_clearNotes) (maxL := 1) (ret := (some .int)) (by decide) rfl (Nat.le_of_ble_eq_true rfl) ?_
  intro p e s m args below meth c A F hP hD hS ls hl
  obtain ⟨hx, hb, hml, hr, hown, hts, hlk, hK, hA⟩ := F
  have hown : s.vm.findClass RX3 = some m.cls := hown
  have hl : lv_has ls 1 [(0, .ref a0)] := hl
  have hinX3 : ∀ w ∈ wsX30, w ∈ wsX3_clearNotes := by decide +kernel
  have hfl10 := hts (.fieldLink RX3 10 "CraneGuard" "site" "LCraneGuard$Site;") (by decide +kernel)
  have hfl22 := hts (.fieldLink RX3 22 "CraneGuard" "history" "LCraneGuard$History;") (by decide +kernel)
  unfold fX3_clearNotes at hf
  refine lv_aload_n hx hb dX3_clearNotes_0 rfl (lv_at hl 0 rfl) ?_
  refine va_get (D := D) (ci := 3) (v := .ref a5) (C := RX3) (T := TX3) (N := 4) hx hb hts hinX3 hown hK.1 hP 0 rfl rfl 2 (by decide) hfl22 (fun _ h9 => h9) rfl dX3_clearNotes_1 ?_
  refine lv_aload_n hx hb dX3_clearNotes_4 rfl (lv_at hl 0 rfl) ?_
  refine va_get (D := D) (ci := 3) (v := .ref a1) (C := RX3) (T := TX3) (N := 4) hx hb hts hinX3 hown hK.1 hP 0 rfl rfl 0 (by decide) hfl10 (fun _ h9 => h9) rfl dX3_clearNotes_5 ?_
  obtain ⟨v1, h2, hf⟩ := kBind hf
  refine kgoJ (wr := [(a0, .inr (3, [.ref a1, .ref a3, .ref a5, .ref a7])), (a3, .inr (1, [.ref a4])), (a4, .inl (cI, 132, .inl R2)), (a7, .inr (2, [.ref a8, .int LN, .int PS, .ref a9, .ref a10, .ref a11, .int CM])), (a8, .inl (cI, 80, .inl TB)), (a9, .inl (cI, 20, .inl TC)), (a10, .inl (cI, 20, .inl TW)), (a11, .inl (cI, 20, .inl TG))]) (w2 := (wX3 cI a0 a1 a2 a3 a4 a5 a6 a7 a8 a9 a10 a11 R R2 v1.1 v1.2.1 v1.2.2 TB LN PS TC TW TG CM)) (krunV (wc := (wX0_X1 cI a5 a6 a1 a2 HR HS HN R)) (As := [.ref a1]) (rest := []) (ci := 0) hx hb hml hown hts hK (kX0_keep l D cI a5 a6 a1 a2 HR HS HN R v1 h2) gX3_clearNotes_X0_keep rfl rfl rfl hdX0_keep ⟨Nat.le_of_ble_eq_true rfl, Nat.le_of_ble_eq_true rfl⟩ (hP.sub [5, 6, 1, 2] rfl) (hD.sub [5, 6, 1, 2] (by decide) rfl) rfl rfl rfl rfl hl.1 rfl (Nat.le_of_ble_eq_true rfl) dX3_clearNotes_8 ⟨Nat.zero_le _, Nat.zero_le _⟩) hP hD hS hA [5, 6, 1, 2] [0, 3, 4, 7, 8, 9, 10, 11] [0, 10, 11, 1, 2, 8, 9, 3, 4, 5, 6, 7] rfl rfl (by decide) (by decide) (by decide) rfl (fun H locs hP hD hS => ?_)
  refine lv_aload_n hx hb dX3_clearNotes_11 rfl (lv_at hl 0 rfl) ?_
  refine va_get (D := D) (ci := 3) (v := .ref a1) (C := RX3) (T := TX3) (N := 4) hx hb hts hinX3 hown hK.1 hP 0 rfl rfl 0 (by decide) hfl10 (fun _ h9 => h9) rfl dX3_clearNotes_12 ?_
  obtain ⟨v3, h4, hf⟩ := kBind hf
  refine kgoJ (wr := [(a0, .inr (3, [.ref a1, .ref a3, .ref a5, .ref a7])), (a3, .inr (1, [.ref a4])), (a4, .inl (cI, 132, .inl R2)), (a5, .inr (0, [.ref a6, .int v1.2.1, .int v1.2.2])), (a6, .inl (cI, 660, .inl v1.1)), (a7, .inr (2, [.ref a8, .int LN, .int PS, .ref a9, .ref a10, .ref a11, .int CM])), (a8, .inl (cI, 80, .inl TB)), (a9, .inl (cI, 20, .inl TC)), (a10, .inl (cI, 20, .inl TW)), (a11, .inl (cI, 20, .inl TG))]) (w2 := (wX3 cI a0 a1 a2 a3 a4 a5 a6 a7 a8 a9 a10 a11 v3.2 R2 v1.1 v1.2.1 v1.2.2 TB LN PS TC TW TG CM)) (krunV (wc := (wX1 cI a1 a2 R)) (As := []) (rest := []) (ci := 1) hx hb hml hown hts hK (kX1_dropNotes l D cI a1 a2 R v3 h4) gX3_clearNotes_X1_dropNotes rfl rfl rfl hdX1_dropNotes ⟨Nat.le_of_ble_eq_true rfl, Nat.le_of_ble_eq_true rfl⟩ (hP.sub [1, 2] rfl) (hD.sub [1, 2] (by decide) rfl) rfl rfl rfl rfl hl.1 rfl (Nat.le_of_ble_eq_true rfl) dX3_clearNotes_15 ⟨Nat.zero_le _, Nat.zero_le _⟩) hP hD hS hA [1, 2] [0, 3, 4, 5, 6, 7, 8, 9, 10, 11] [0, 10, 11, 1, 2, 3, 4, 5, 6, 7, 8, 9] rfl rfl (by decide) (by decide) (by decide) rfl (fun H locs hP hD hS => ?_)
  have he := Option.some.inj hf
  subst he
  exact kreti hx hb hr hlk hP hD hS dX3_clearNotes_18
set_option maxHeartbeats 4000000 in
set_option maxRecDepth 100000 in
theorem kX3_clearText (l : Launch) (D : va_G) (cI : ClassId) (a0 a1 a2 a3 a4 a5 a6 a7 a8 a9 a10 a11 : Nat) (R : (Nat → Int32)) (R2 : (Nat → Int32)) (HR : (Nat → Int32)) (HS : Int32) (HN : Int32) (TB : (Nat → Int32)) (LN : Int32) (PS : Int32) (TC : (Nat → Int32)) (TW : (Nat → Int32)) (TG : (Nat → Int32)) (CM : Int32) (o : Int32 × Int32) (hf : fX3_clearText LN = some o) : Ct l yX3_clearText wsX3_clearText { frames := 1, cells := 0, slots := 0, locals := 21 } D cI [.ref a0] (wX3 cI a0 a1 a2 a3 a4 a5 a6 a7 a8 a9 a10 a11 R R2 HR HS HN TB LN PS TC TW TG CM) (wX3 cI a0 a1 a2 a3 a4 a5 a6 a7 a8 a9 a10 a11 R R2 HR HS HN TB o.2 PS TC TW TG CM) (some (.int o.1)) := by
  refine Ct.of (cc := cX3_clearText) (maxL := 1) (ret := (some .int)) (by decide) rfl (Nat.le_of_ble_eq_true rfl) ?_
  intro p e s m args below meth c A F hP hD hS ls hl
  obtain ⟨hx, hb, hml, hr, hown, hts, hlk, hK, hA⟩ := F
  have hown : s.vm.findClass RX3 = some m.cls := hown
  have hl : lv_has ls 1 [(0, .ref a0)] := hl
  have hinX3 : ∀ w ∈ wsX30, w ∈ wsX3_clearText := by decide +kernel
  have hfl29 := hts (.fieldLink RX3 29 "CraneGuard" "text" "LCraneGuard$Text;") (by decide +kernel)
  unfold fX3_clearText at hf
  refine lv_aload_n hx hb dX3_clearText_0 rfl (lv_at hl 0 rfl) ?_
  refine va_get (D := D) (ci := 3) (v := .ref a7) (C := RX3) (T := TX3) (N := 4) hx hb hts hinX3 hown hK.1 hP 0 rfl rfl 3 (by decide) hfl29 (fun _ h9 => h9) rfl dX3_clearText_1 ?_
  obtain ⟨v1, h2, hf⟩ := kBind hf
  refine kgoJ (wr := [(a0, .inr (3, [.ref a1, .ref a3, .ref a5, .ref a7])), (a1, .inr (1, [.ref a2])), (a2, .inl (cI, 132, .inl R)), (a3, .inr (1, [.ref a4])), (a4, .inl (cI, 132, .inl R2)), (a5, .inr (0, [.ref a6, .int HS, .int HN])), (a6, .inl (cI, 660, .inl HR))]) (w2 := (wX3 cI a0 a1 a2 a3 a4 a5 a6 a7 a8 a9 a10 a11 R R2 HR HS HN TB v1.2 PS TC TW TG CM)) (krunV (wc := (wX2 cI a7 a8 a9 a10 a11 TB LN PS TC TW TG CM)) (As := []) (rest := []) (ci := 2) hx hb hml hown hts hK (kX2_empty l D cI a7 a8 a9 a10 a11 TB LN PS TC TW TG CM v1 h2) gX3_clearText_X2_empty rfl rfl rfl hdX2_empty ⟨Nat.le_of_ble_eq_true rfl, Nat.le_of_ble_eq_true rfl⟩ (hP.sub [7, 8, 9, 10, 11] rfl) (hD.sub [7, 8, 9, 10, 11] (by decide) rfl) rfl rfl rfl rfl hl.1 rfl (Nat.le_of_ble_eq_true rfl) dX3_clearText_4 ⟨Nat.zero_le _, Nat.zero_le _⟩) hP hD hS hA [7, 8, 9, 10, 11] [0, 1, 2, 3, 4, 5, 6] [0, 1, 2, 3, 4, 5, 6, 7, 8, 9, 10, 11] rfl rfl (by decide) (by decide) (by decide) rfl (fun H locs hP hD hS => ?_)
  have he := Option.some.inj hf
  subst he
  exact kreti hx hb hr hlk hP hD hS dX3_clearText_7
set_option maxHeartbeats 4000000 in
set_option maxRecDepth 100000 in
theorem kX3_command (l : Launch) (D : va_G) (cI : ClassId) (fu : Nat) (a0 a1 a2 a3 a4 a5 a6 a7 a8 a9 a10 a11 : Nat) (R : (Nat → Int32)) (R2 : (Nat → Int32)) (HR : (Nat → Int32)) (HS : Int32) (HN : Int32) (TB : (Nat → Int32)) (LN : Int32) (PS : Int32) (TC : (Nat → Int32)) (TW : (Nat → Int32)) (TG : (Nat → Int32)) (CM : Int32) (o : Int32 × (Nat → Int32) × (Nat → Int32) × Int32 × Int32 × Int32 × (Nat → Int32) × (Nat → Int32) × (Nat → Int32) × Int32) (hf : fX3_command fu R HR HS HN TB LN TC TW TG = some o) : Ct l yX3_command wsX3_command { frames := 4, cells := 0, slots := 0, locals := 91 } D cI [.ref a0] (wX3 cI a0 a1 a2 a3 a4 a5 a6 a7 a8 a9 a10 a11 R R2 HR HS HN TB LN PS TC TW TG CM) (wX3 cI a0 a1 a2 a3 a4 a5 a6 a7 a8 a9 a10 a11 o.2.1 R2 o.2.2.1 o.2.2.2.1 o.2.2.2.2.1 TB LN o.2.2.2.2.2.1 o.2.2.2.2.2.2.1 o.2.2.2.2.2.2.2.1 o.2.2.2.2.2.2.2.2.1 o.2.2.2.2.2.2.2.2.2) (some (.int o.1)) := by
  refine Ct.of (cc := cX3_command) (maxL := 1) (ret := (some .int)) (by decide) rfl (Nat.le_of_ble_eq_true rfl) ?_
  intro p e s m args below meth c A F hP hD hS ls hl
  obtain ⟨hx, hb, hml, hr, hown, hts, hlk, hK, hA⟩ := F
  have hown : s.vm.findClass RX3 = some m.cls := hown
  have hl : lv_has ls 1 [(0, .ref a0)] := hl
  have hinX3 : ∀ w ∈ wsX30, w ∈ wsX3_command := by decide +kernel
  have hfl10 := hts (.fieldLink RX3 10 "CraneGuard" "site" "LCraneGuard$Site;") (by decide +kernel)
  have hfl22 := hts (.fieldLink RX3 22 "CraneGuard" "history" "LCraneGuard$History;") (by decide +kernel)
  have hfl29 := hts (.fieldLink RX3 29 "CraneGuard" "text" "LCraneGuard$Text;") (by decide +kernel)
  unfold fX3_command at hf
  refine lv_aload_n hx hb dX3_command_0 rfl (lv_at hl 0 rfl) ?_
  refine va_get (D := D) (ci := 3) (v := .ref a7) (C := RX3) (T := TX3) (N := 4) hx hb hts hinX3 hown hK.1 hP 0 rfl rfl 3 (by decide) hfl29 (fun _ h9 => h9) rfl dX3_command_1 ?_
  refine lv_aload_n hx hb dX3_command_4 rfl (lv_at hl 0 rfl) ?_
  refine va_get (D := D) (ci := 3) (v := .ref a1) (C := RX3) (T := TX3) (N := 4) hx hb hts hinX3 hown hK.1 hP 0 rfl rfl 0 (by decide) hfl10 (fun _ h9 => h9) rfl dX3_command_5 ?_
  obtain ⟨v1, h2, hf⟩ := kBind hf
  refine kgoJ (wr := [(a0, .inr (3, [.ref a1, .ref a3, .ref a5, .ref a7])), (a3, .inr (1, [.ref a4])), (a4, .inl (cI, 132, .inl R2)), (a5, .inr (0, [.ref a6, .int HS, .int HN])), (a6, .inl (cI, 660, .inl HR))]) (w2 := (wX3 cI a0 a1 a2 a3 a4 a5 a6 a7 a8 a9 a10 a11 R R2 HR HS HN TB LN v1.2.1 v1.2.2.1 v1.2.2.2.1 v1.2.2.2.2.1 v1.2.2.2.2.2)) (krunV (wc := (wX2_X1 cI a7 a8 a9 a10 a11 a1 a2 TB LN PS TC TW TG CM R)) (As := [.ref a1]) (rest := []) (ci := 2) hx hb hml hown hts hK (kX2_read l D cI fu a7 a8 a9 a10 a11 a1 a2 TB LN PS TC TW TG CM R v1 h2) gX3_command_X2_read rfl rfl rfl hdX2_read ⟨Nat.le_of_ble_eq_true rfl, Nat.le_of_ble_eq_true rfl⟩ (hP.sub [7, 8, 9, 10, 11, 1, 2] rfl) (hD.sub [7, 8, 9, 10, 11, 1, 2] (by decide) rfl) rfl rfl rfl rfl hl.1 rfl (Nat.le_of_ble_eq_true rfl) dX3_command_8 ⟨Nat.zero_le _, Nat.zero_le _⟩) hP hD hS hA [7, 8, 9, 10, 11, 1, 2] [0, 3, 4, 5, 6] [0, 10, 11, 1, 2, 3, 4, 5, 6, 7, 8, 9] rfl rfl (by decide) (by decide) (by decide) rfl (fun H locs hP hD hS => ?_)
  refine lv_bipush (v := (-100 : Int32)) hx hb dX3_command_11 (by decide) ?_
  refine lv_icmp_eq (tgt := 19) hx hb dX3_command_13 (by decide) (fun c3 => ?_) (fun c3 => ?_)
  · have hf := kIfT c3 hf
    refine lv_aload_n hx hb dX3_command_19 rfl (lv_at hl 0 rfl) ?_
    refine va_get (D := D) (ci := 3) (v := .ref a5) (C := RX3) (T := TX3) (N := 4) hx hb hts hinX3 hown hK.1 hP 0 rfl rfl 2 (by decide) hfl22 (fun _ h9 => h9) rfl dX3_command_20 ?_
    refine lv_aload_n hx hb dX3_command_23 rfl (lv_at hl 0 rfl) ?_
    refine va_get (D := D) (ci := 3) (v := .ref a1) (C := RX3) (T := TX3) (N := 4) hx hb hts hinX3 hown hK.1 hP 0 rfl rfl 0 (by decide) hfl10 (fun _ h9 => h9) rfl dX3_command_24 ?_
    obtain ⟨v4, h5, hf⟩ := kBind hf
    refine kgoJ (wr := [(a0, .inr (3, [.ref a1, .ref a3, .ref a5, .ref a7])), (a3, .inr (1, [.ref a4])), (a4, .inl (cI, 132, .inl R2)), (a7, .inr (2, [.ref a8, .int LN, .int v1.2.1, .ref a9, .ref a10, .ref a11, .int v1.2.2.2.2.2])), (a8, .inl (cI, 80, .inl TB)), (a9, .inl (cI, 20, .inl v1.2.2.1)), (a10, .inl (cI, 20, .inl v1.2.2.2.1)), (a11, .inl (cI, 20, .inl v1.2.2.2.2.1))]) (w2 := (wX3 cI a0 a1 a2 a3 a4 a5 a6 a7 a8 a9 a10 a11 R R2 v4.1 v4.2.1 v4.2.2 TB LN v1.2.1 v1.2.2.1 v1.2.2.2.1 v1.2.2.2.2.1 v1.2.2.2.2.2)) (krunV (wc := (wX0_X1 cI a5 a6 a1 a2 HR HS HN R)) (As := [.ref a1]) (rest := []) (ci := 0) hx hb hml hown hts hK (kX0_keep l D cI a5 a6 a1 a2 HR HS HN R v4 h5) gX3_command_X0_keep rfl rfl rfl hdX0_keep ⟨Nat.le_of_ble_eq_true rfl, Nat.le_of_ble_eq_true rfl⟩ (hP.sub [5, 6, 1, 2] rfl) (hD.sub [5, 6, 1, 2] (by decide) rfl) rfl rfl rfl rfl hl.1 rfl (Nat.le_of_ble_eq_true rfl) dX3_command_27 ⟨Nat.zero_le _, Nat.zero_le _⟩) hP hD hS hA [5, 6, 1, 2] [0, 3, 4, 7, 8, 9, 10, 11] [0, 10, 11, 1, 2, 8, 9, 3, 4, 5, 6, 7] rfl rfl (by decide) (by decide) (by decide) rfl (fun H locs hP hD hS => ?_)
    refine lv_aload_n hx hb dX3_command_30 rfl (lv_at hl 0 rfl) ?_
    refine va_get (D := D) (ci := 3) (v := .ref a7) (C := RX3) (T := TX3) (N := 4) hx hb hts hinX3 hown hK.1 hP 0 rfl rfl 3 (by decide) hfl29 (fun _ h9 => h9) rfl dX3_command_31 ?_
    refine lv_aload_n hx hb dX3_command_34 rfl (lv_at hl 0 rfl) ?_
    refine va_get (D := D) (ci := 3) (v := .ref a1) (C := RX3) (T := TX3) (N := 4) hx hb hts hinX3 hown hK.1 hP 0 rfl rfl 0 (by decide) hfl10 (fun _ h9 => h9) rfl dX3_command_35 ?_
    obtain ⟨v6, h7, hf⟩ := kBind hf
    refine kgoJ (wr := [(a0, .inr (3, [.ref a1, .ref a3, .ref a5, .ref a7])), (a3, .inr (1, [.ref a4])), (a4, .inl (cI, 132, .inl R2)), (a5, .inr (0, [.ref a6, .int v4.2.1, .int v4.2.2])), (a6, .inl (cI, 660, .inl v4.1))]) (w2 := (wX3 cI a0 a1 a2 a3 a4 a5 a6 a7 a8 a9 a10 a11 v6 R2 v4.1 v4.2.1 v4.2.2 TB LN v1.2.1 v1.2.2.1 v1.2.2.2.1 v1.2.2.2.2.1 v1.2.2.2.2.2)) (krunV (wc := (wX2_X1 cI a7 a8 a9 a10 a11 a1 a2 TB LN v1.2.1 v1.2.2.1 v1.2.2.2.1 v1.2.2.2.2.1 v1.2.2.2.2.2 R)) (As := [.ref a1]) (rest := []) (ci := 2) hx hb hml hown hts hK (kX2_carryOut l D cI fu a7 a8 a9 a10 a11 a1 a2 TB LN v1.2.1 v1.2.2.1 v1.2.2.2.1 v1.2.2.2.2.1 v1.2.2.2.2.2 R v6 h7) gX3_command_X2_carryOut rfl rfl rfl hdX2_carryOut ⟨Nat.le_of_ble_eq_true rfl, Nat.le_of_ble_eq_true rfl⟩ (hP.sub [7, 8, 9, 10, 11, 1, 2] rfl) (hD.sub [7, 8, 9, 10, 11, 1, 2] (by decide) rfl) rfl rfl rfl rfl hl.1 rfl (Nat.le_of_ble_eq_true rfl) dX3_command_38 ⟨Nat.zero_le _, Nat.zero_le _⟩) hP hD hS hA [7, 8, 9, 10, 11, 1, 2] [0, 3, 4, 5, 6] [0, 10, 11, 1, 2, 3, 4, 5, 6, 7, 8, 9] rfl rfl (by decide) (by decide) (by decide) rfl (fun H locs hP hD hS => ?_)
    refine lv_aload_n hx hb dX3_command_41 rfl (lv_at hl 0 rfl) ?_
    refine va_get (D := D) (ci := 3) (v := .ref a1) (C := RX3) (T := TX3) (N := 4) hx hb hts hinX3 hown hK.1 hP 0 rfl rfl 0 (by decide) hfl10 (fun _ h9 => h9) rfl dX3_command_42 ?_
    obtain ⟨v8, h9, hf⟩ := kBind hf
    refine kgoR (krunV (wc := (wX1 cI a1 a2 v6)) (As := []) (rest := []) (ci := 1) hx hb hml hown hts hK (kX1_cranesWithTarget l D cI fu a1 a2 v6 v8 h9) gX3_command_X1_cranesWithTarget rfl rfl rfl hdX1_cranesWithTarget ⟨Nat.le_of_ble_eq_true rfl, Nat.le_of_ble_eq_true rfl⟩ (hP.sub [1, 2] rfl) (hD.sub [1, 2] (by decide) rfl) rfl rfl rfl rfl hl.1 rfl (Nat.le_of_ble_eq_true rfl) dX3_command_45 ⟨Nat.zero_le _, Nat.zero_le _⟩) hP hD hS hA [1, 2] rfl (fun H locs hP hS => ?_)
    obtain ⟨v10, h11, hf⟩ := kBind hf
    refine kgoR (krunS (wc := ([] : va_W)) (As := [.int v8]) (rest := []) hx hb hml hown hts hK (kJ6_bitCount_0f7a4 l D cI v8 v10 h11) gX3_command_J6_bitCount_0f7a4 rfl rfl rfl hdJ6_bitCount_0f7a4 ⟨Nat.le_of_ble_eq_true rfl, Nat.le_of_ble_eq_true rfl⟩ k_P0 (k_D0 A) rfl hl.1 rfl (Nat.le_of_ble_eq_true rfl) dX3_command_48 ⟨Nat.zero_le _, Nat.zero_le _⟩) hP hD hS hA [] rfl (fun H locs hP hS => ?_)
    have he := Option.some.inj hf
    subst he
    exact kreti hx hb hr hlk hP hD hS dX3_command_51
  · have hf := kIfF c3 hf
    refine lv_bipush (v := (-103 : Int32)) hx hb dX3_command_16 (by decide) ?_
    have he := Option.some.inj hf
    subst he
    exact kreti hx hb hr hlk hP hD hS dX3_command_18
set_option maxHeartbeats 4000000 in
set_option maxRecDepth 100000 in
theorem kX3_conflicts (l : Launch) (D : va_G) (cI : ClassId) (fu : Nat) (a0 a1 a2 a3 a4 a5 a6 a7 a8 a9 a10 a11 : Nat) (R : (Nat → Int32)) (R2 : (Nat → Int32)) (HR : (Nat → Int32)) (HS : Int32) (HN : Int32) (TB : (Nat → Int32)) (LN : Int32) (PS : Int32) (TC : (Nat → Int32)) (TW : (Nat → Int32)) (TG : (Nat → Int32)) (CM : Int32) (o : Int32) (hf : fX3_conflicts fu R = some o) : Ct l yX3_conflicts wsX3_conflicts { frames := 5, cells := 0, slots := 0, locals := 114 } D cI [.ref a0] (wX3 cI a0 a1 a2 a3 a4 a5 a6 a7 a8 a9 a10 a11 R R2 HR HS HN TB LN PS TC TW TG CM) (wX3 cI a0 a1 a2 a3 a4 a5 a6 a7 a8 a9 a10 a11 R R2 HR HS HN TB LN PS TC TW TG CM) (some (.int o)) := by
  refine Ct.of (cc := cX3_conflicts) (maxL := 1) (ret := (some .int)) (by decide) rfl (Nat.le_of_ble_eq_true rfl) ?_
  intro p e s m args below meth c A F hP hD hS ls hl
  obtain ⟨hx, hb, hml, hr, hown, hts, hlk, hK, hA⟩ := F
  have hown : s.vm.findClass RX3 = some m.cls := hown
  have hl : lv_has ls 1 [(0, .ref a0)] := hl
  have hinX3 : ∀ w ∈ wsX30, w ∈ wsX3_conflicts := by decide +kernel
  have hfl10 := hts (.fieldLink RX3 10 "CraneGuard" "site" "LCraneGuard$Site;") (by decide +kernel)
  unfold fX3_conflicts at hf
  refine lv_aload_n hx hb dX3_conflicts_0 rfl (lv_at hl 0 rfl) ?_
  refine va_get (D := D) (ci := 3) (v := .ref a1) (C := RX3) (T := TX3) (N := 4) hx hb hts hinX3 hown hK.1 hP 0 rfl rfl 0 (by decide) hfl10 (fun _ h9 => h9) rfl dX3_conflicts_1 ?_
  obtain ⟨v1, h2, hf⟩ := kBind hf
  refine kgoR (krunV (wc := (wX1 cI a1 a2 R)) (As := []) (rest := []) (ci := 1) hx hb hml hown hts hK (kX1_conflictSet l D cI fu a1 a2 R v1 h2) gX3_conflicts_X1_conflictSet rfl rfl rfl hdX1_conflictSet ⟨Nat.le_of_ble_eq_true rfl, Nat.le_of_ble_eq_true rfl⟩ (hP.sub [1, 2] rfl) (hD.sub [1, 2] (by decide) rfl) rfl rfl rfl rfl hl.1 rfl (Nat.le_of_ble_eq_true rfl) dX3_conflicts_4 ⟨Nat.zero_le _, Nat.zero_le _⟩) hP hD hS hA [1, 2] rfl (fun H locs hP hS => ?_)
  have he := Option.some.inj hf
  subst he
  exact kreti hx hb hr hlk hP hD hS dX3_conflicts_7
set_option maxHeartbeats 4000000 in
set_option maxRecDepth 100000 in
theorem kX3_crane (l : Launch) (D : va_G) (cI : ClassId) (fu : Nat) (a0 a1 a2 a3 a4 a5 a6 a7 a8 a9 a10 a11 : Nat) (R : (Nat → Int32)) (R2 : (Nat → Int32)) (HR : (Nat → Int32)) (HS : Int32) (HN : Int32) (TB : (Nat → Int32)) (LN : Int32) (PS : Int32) (TC : (Nat → Int32)) (TW : (Nat → Int32)) (TG : (Nat → Int32)) (CM : Int32) (x1 : Int32) (x2 : Int32) (o : Int32) (hf : fX3_crane fu R x1 x2 = some o) : Ct l yX3_crane wsX3_crane { frames := 3, cells := 0, slots := 0, locals := 71 } D cI [.ref a0, .int x1, .int x2] (wX3 cI a0 a1 a2 a3 a4 a5 a6 a7 a8 a9 a10 a11 R R2 HR HS HN TB LN PS TC TW TG CM) (wX3 cI a0 a1 a2 a3 a4 a5 a6 a7 a8 a9 a10 a11 R R2 HR HS HN TB LN PS TC TW TG CM) (some (.int o)) := by
  refine Ct.of (cc := cX3_crane) (maxL := 3) (ret := (some .int)) (by decide) rfl (Nat.le_of_ble_eq_true rfl) ?_
  intro p e s m args below meth c A F hP hD hS ls hl
  obtain ⟨hx, hb, hml, hr, hown, hts, hlk, hK, hA⟩ := F
  have hown : s.vm.findClass RX3 = some m.cls := hown
  have hl : lv_has ls 3 [(0, .ref a0), (1, .int x1), (2, .int x2)] := hl
  have hinX3 : ∀ w ∈ wsX30, w ∈ wsX3_crane := by decide +kernel
  have hfl10 := hts (.fieldLink RX3 10 "CraneGuard" "site" "LCraneGuard$Site;") (by decide +kernel)
  unfold fX3_crane at hf
  refine lv_aload_n hx hb dX3_crane_0 rfl (lv_at hl 0 rfl) ?_
  refine va_get (D := D) (ci := 3) (v := .ref a1) (C := RX3) (T := TX3) (N := 4) hx hb hts hinX3 hown hK.1 hP 0 rfl rfl 0 (by decide) hfl10 (fun _ h9 => h9) rfl dX3_crane_1 ?_
  refine lv_iload_n hx hb dX3_crane_4 rfl (lv_at hl 1 rfl) ?_
  obtain ⟨v1, h2, hf⟩ := kBind hf
  refine kgoR (krunV (wc := (wX1 cI a1 a2 R)) (As := [.int x1]) (rest := []) (ci := 1) hx hb hml hown hts hK (kX1_hasCrane l D cI a1 a2 R x1 v1 h2) gX3_crane_X1_hasCrane rfl rfl rfl hdX1_hasCrane ⟨Nat.le_of_ble_eq_true rfl, Nat.le_of_ble_eq_true rfl⟩ (hP.sub [1, 2] rfl) (hD.sub [1, 2] (by decide) rfl) rfl rfl rfl rfl hl.1 rfl (Nat.le_of_ble_eq_true rfl) dX3_crane_5 ⟨Nat.zero_le _, Nat.zero_le _⟩) hP hD hS hA [1, 2] rfl (fun H locs hP hS => ?_)
  refine kif_neb (tgt := 14) hx hb dX3_crane_8 (by decide) (fun c3 => ?_) (fun c3 => ?_)
  · have hf := kIfT c3 hf
    refine lv_iload_n hx hb dX3_crane_14 rfl (lv_at hl 2 rfl) ?_
    refine lv_if_lt (tgt := 24) hx hb dX3_crane_15 (by decide) (fun c4 => ?_) (fun c4 => ?_)
    · have hf := kIfT c4 hf
      refine lv_bipush (v := (-102 : Int32)) hx hb dX3_crane_24 (by decide) ?_
      have he := Option.some.inj hf
      subst he
      exact kreti hx hb hr hlk hP hD hS dX3_crane_26
    · have hf := kIfF c4 hf
      refine lv_iload_n hx hb dX3_crane_18 rfl (lv_at hl 2 rfl) ?_
      refine lv_bipush (v := (10 : Int32)) hx hb dX3_crane_19 (by decide) ?_
      refine lv_icmp_lt (tgt := 27) hx hb dX3_crane_21 (by decide) (fun c5 => ?_) (fun c5 => ?_)
      · have hf := kIfT c5 hf
        refine lv_aload_n hx hb dX3_crane_27 rfl (lv_at hl 0 rfl) ?_
        refine va_get (D := D) (ci := 3) (v := .ref a1) (C := RX3) (T := TX3) (N := 4) hx hb hts hinX3 hown hK.1 hP 0 rfl rfl 0 (by decide) hfl10 (fun _ h9 => h9) rfl dX3_crane_28 ?_
        refine lv_iload_n hx hb dX3_crane_31 rfl (lv_at hl 1 rfl) ?_
        refine lv_iload_n hx hb dX3_crane_32 rfl (lv_at hl 2 rfl) ?_
        obtain ⟨v6, h7, hf⟩ := kBind hf
        refine kgoR (krunV (wc := (wX1 cI a1 a2 R)) (As := [.int x1, .int x2]) (rest := []) (ci := 1) hx hb hml hown hts hK (kX1_property l D cI fu a1 a2 R x1 x2 v6 h7) gX3_crane_X1_property rfl rfl rfl hdX1_property ⟨Nat.le_of_ble_eq_true rfl, Nat.le_of_ble_eq_true rfl⟩ (hP.sub [1, 2] rfl) (hD.sub [1, 2] (by decide) rfl) rfl rfl rfl rfl hl.1 rfl (Nat.le_of_ble_eq_true rfl) dX3_crane_33 ⟨Nat.zero_le _, Nat.zero_le _⟩) hP hD hS hA [1, 2] rfl (fun H locs hP hS => ?_)
        have he := Option.some.inj hf
        subst he
        exact kreti hx hb hr hlk hP hD hS dX3_crane_36
      · have hf := kIfF c5 hf
        refine lv_bipush (v := (-102 : Int32)) hx hb dX3_crane_24 (by decide) ?_
        have he := Option.some.inj hf
        subst he
        exact kreti hx hb hr hlk hP hD hS dX3_crane_26
  · have hf := kIfF c3 hf
    refine lv_bipush (v := (-101 : Int32)) hx hb dX3_crane_11 (by decide) ?_
    have he := Option.some.inj hf
    subst he
    exact kreti hx hb hr hlk hP hD hS dX3_crane_13
set_option maxHeartbeats 4000000 in
set_option maxRecDepth 100000 in
theorem kX3_cranes (l : Launch) (D : va_G) (cI : ClassId) (a0 a1 a2 a3 a4 a5 a6 a7 a8 a9 a10 a11 : Nat) (R : (Nat → Int32)) (R2 : (Nat → Int32)) (HR : (Nat → Int32)) (HS : Int32) (HN : Int32) (TB : (Nat → Int32)) (LN : Int32) (PS : Int32) (TC : (Nat → Int32)) (TW : (Nat → Int32)) (TG : (Nat → Int32)) (CM : Int32) (o : Int32) (hf : fX3_cranes R = some o) : Ct l yX3_cranes wsX3_cranes { frames := 1, cells := 0, slots := 0, locals := 20 } D cI [.ref a0] (wX3 cI a0 a1 a2 a3 a4 a5 a6 a7 a8 a9 a10 a11 R R2 HR HS HN TB LN PS TC TW TG CM) (wX3 cI a0 a1 a2 a3 a4 a5 a6 a7 a8 a9 a10 a11 R R2 HR HS HN TB LN PS TC TW TG CM) (some (.int o)) := by
  refine Ct.of (cc := cX3_cranes) (maxL := 1) (ret := (some .int)) (by decide) rfl (Nat.le_of_ble_eq_true rfl) ?_
  intro p e s m args below meth c A F hP hD hS ls hl
  obtain ⟨hx, hb, hml, hr, hown, hts, hlk, hK, hA⟩ := F
  have hown : s.vm.findClass RX3 = some m.cls := hown
  have hl : lv_has ls 1 [(0, .ref a0)] := hl
  have hinX3 : ∀ w ∈ wsX30, w ∈ wsX3_cranes := by decide +kernel
  have hfl10 := hts (.fieldLink RX3 10 "CraneGuard" "site" "LCraneGuard$Site;") (by decide +kernel)
  unfold fX3_cranes at hf
  refine lv_aload_n hx hb dX3_cranes_0 rfl (lv_at hl 0 rfl) ?_
  refine va_get (D := D) (ci := 3) (v := .ref a1) (C := RX3) (T := TX3) (N := 4) hx hb hts hinX3 hown hK.1 hP 0 rfl rfl 0 (by decide) hfl10 (fun _ h9 => h9) rfl dX3_cranes_1 ?_
  obtain ⟨v1, h2, hf⟩ := kBind hf
  refine kgoR (krunV (wc := (wX1 cI a1 a2 R)) (As := []) (rest := []) (ci := 1) hx hb hml hown hts hK (kX1_craneCount l D cI a1 a2 R v1 h2) gX3_cranes_X1_craneCount rfl rfl rfl hdX1_craneCount ⟨Nat.le_of_ble_eq_true rfl, Nat.le_of_ble_eq_true rfl⟩ (hP.sub [1, 2] rfl) (hD.sub [1, 2] (by decide) rfl) rfl rfl rfl rfl hl.1 rfl (Nat.le_of_ble_eq_true rfl) dX3_cranes_4 ⟨Nat.zero_le _, Nat.zero_le _⟩) hP hD hS hA [1, 2] rfl (fun H locs hP hS => ?_)
  have he := Option.some.inj hf
  subst he
  exact kreti hx hb hr hlk hP hD hS dX3_cranes_7
set_option maxHeartbeats 4000000 in
set_option maxRecDepth 100000 in
theorem kX3_cycle (l : Launch) (D : va_G) (cI : ClassId) (fu : Nat) (a0 a1 a2 a3 a4 a5 a6 a7 a8 a9 a10 a11 : Nat) (R : (Nat → Int32)) (R2 : (Nat → Int32)) (HR : (Nat → Int32)) (HS : Int32) (HN : Int32) (TB : (Nat → Int32)) (LN : Int32) (PS : Int32) (TC : (Nat → Int32)) (TW : (Nat → Int32)) (TG : (Nat → Int32)) (CM : Int32) (o : Int32) (hf : fX3_cycle fu R = some o) : Ct l yX3_cycle wsX3_cycle { frames := 5, cells := 0, slots := 0, locals := 116 } D cI [.ref a0] (wX3 cI a0 a1 a2 a3 a4 a5 a6 a7 a8 a9 a10 a11 R R2 HR HS HN TB LN PS TC TW TG CM) (wX3 cI a0 a1 a2 a3 a4 a5 a6 a7 a8 a9 a10 a11 R R2 HR HS HN TB LN PS TC TW TG CM) (some (.int o)) := by
  refine Ct.of (cc := cX3_cycle) (maxL := 1) (ret := (some .int)) (by decide) rfl (Nat.le_of_ble_eq_true rfl) ?_
  intro p e s m args below meth c A F hP hD hS ls hl
  obtain ⟨hx, hb, hml, hr, hown, hts, hlk, hK, hA⟩ := F
  have hown : s.vm.findClass RX3 = some m.cls := hown
  have hl : lv_has ls 1 [(0, .ref a0)] := hl
  have hinX3 : ∀ w ∈ wsX30, w ∈ wsX3_cycle := by decide +kernel
  have hfl10 := hts (.fieldLink RX3 10 "CraneGuard" "site" "LCraneGuard$Site;") (by decide +kernel)
  unfold fX3_cycle at hf
  refine lv_aload_n hx hb dX3_cycle_0 rfl (lv_at hl 0 rfl) ?_
  refine va_get (D := D) (ci := 3) (v := .ref a1) (C := RX3) (T := TX3) (N := 4) hx hb hts hinX3 hown hK.1 hP 0 rfl rfl 0 (by decide) hfl10 (fun _ h9 => h9) rfl dX3_cycle_1 ?_
  obtain ⟨v1, h2, hf⟩ := kBind hf
  refine kgoR (krunV (wc := (wX1 cI a1 a2 R)) (As := []) (rest := []) (ci := 1) hx hb hml hown hts hK (kX1_cycleSet l D cI fu a1 a2 R v1 h2) gX3_cycle_X1_cycleSet rfl rfl rfl hdX1_cycleSet ⟨Nat.le_of_ble_eq_true rfl, Nat.le_of_ble_eq_true rfl⟩ (hP.sub [1, 2] rfl) (hD.sub [1, 2] (by decide) rfl) rfl rfl rfl rfl hl.1 rfl (Nat.le_of_ble_eq_true rfl) dX3_cycle_4 ⟨Nat.zero_le _, Nat.zero_le _⟩) hP hD hS hA [1, 2] rfl (fun H locs hP hS => ?_)
  have he := Option.some.inj hf
  subst he
  exact kreti hx hb hr hlk hP hD hS dX3_cycle_7
set_option maxHeartbeats 4000000 in
set_option maxRecDepth 100000 in
theorem kX3_digest (l : Launch) (D : va_G) (cI : ClassId) (fu : Nat) (a0 a1 a2 a3 a4 a5 a6 a7 a8 a9 a10 a11 : Nat) (R : (Nat → Int32)) (R2 : (Nat → Int32)) (HR : (Nat → Int32)) (HS : Int32) (HN : Int32) (TB : (Nat → Int32)) (LN : Int32) (PS : Int32) (TC : (Nat → Int32)) (TW : (Nat → Int32)) (TG : (Nat → Int32)) (CM : Int32) (o : Int64) (hf : fX3_digest fu R = some o) : Ct l yX3_digest wsX3_digest { frames := 5, cells := 0, slots := 0, locals := 120 } D cI [.ref a0] (wX3 cI a0 a1 a2 a3 a4 a5 a6 a7 a8 a9 a10 a11 R R2 HR HS HN TB LN PS TC TW TG CM) (wX3 cI a0 a1 a2 a3 a4 a5 a6 a7 a8 a9 a10 a11 R R2 HR HS HN TB LN PS TC TW TG CM) (some (.long o)) := by
  refine Ct.of (cc := cX3_digest) (maxL := 1) (ret := (some .long)) (by decide) rfl (Nat.le_of_ble_eq_true rfl) ?_
  intro p e s m args below meth c A F hP hD hS ls hl
  obtain ⟨hx, hb, hml, hr, hown, hts, hlk, hK, hA⟩ := F
  have hown : s.vm.findClass RX3 = some m.cls := hown
  have hl : lv_has ls 1 [(0, .ref a0)] := hl
  have hinX3 : ∀ w ∈ wsX30, w ∈ wsX3_digest := by decide +kernel
  have hfl10 := hts (.fieldLink RX3 10 "CraneGuard" "site" "LCraneGuard$Site;") (by decide +kernel)
  unfold fX3_digest at hf
  refine lv_aload_n hx hb dX3_digest_0 rfl (lv_at hl 0 rfl) ?_
  refine va_get (D := D) (ci := 3) (v := .ref a1) (C := RX3) (T := TX3) (N := 4) hx hb hts hinX3 hown hK.1 hP 0 rfl rfl 0 (by decide) hfl10 (fun _ h9 => h9) rfl dX3_digest_1 ?_
  obtain ⟨v1, h2, hf⟩ := kBind hf
  refine kgoR (krunV (wc := (wX1 cI a1 a2 R)) (As := []) (rest := []) (ci := 1) hx hb hml hown hts hK (kX1_hash l D cI fu a1 a2 R v1 h2) gX3_digest_X1_hash rfl rfl rfl hdX1_hash ⟨Nat.le_of_ble_eq_true rfl, Nat.le_of_ble_eq_true rfl⟩ (hP.sub [1, 2] rfl) (hD.sub [1, 2] (by decide) rfl) rfl rfl rfl rfl hl.1 rfl (Nat.le_of_ble_eq_true rfl) dX3_digest_4 ⟨Nat.zero_le _, Nat.zero_le _⟩) hP hD hS hA [1, 2] rfl (fun H locs hP hS => ?_)
  have he := Option.some.inj hf
  subst he
  exact kretl hx hb hr hlk hP hD hS dX3_digest_7
set_option maxHeartbeats 4000000 in
set_option maxRecDepth 100000 in
theorem kX3_done (l : Launch) (D : va_G) (cI : ClassId) (fu : Nat) (a0 a1 a2 a3 a4 a5 a6 a7 a8 a9 a10 a11 : Nat) (R : (Nat → Int32)) (R2 : (Nat → Int32)) (HR : (Nat → Int32)) (HS : Int32) (HN : Int32) (TB : (Nat → Int32)) (LN : Int32) (PS : Int32) (TC : (Nat → Int32)) (TW : (Nat → Int32)) (TG : (Nat → Int32)) (CM : Int32) (x1 : Int32) (o : Int32 × (Nat → Int32)) (hf : fX3_done fu R R2 x1 = some o) : Ct l yX3_done wsX3_done { frames := 6, cells := 0, slots := 0, locals := 137 } D cI [.ref a0, .int x1] (wX3 cI a0 a1 a2 a3 a4 a5 a6 a7 a8 a9 a10 a11 R R2 HR HS HN TB LN PS TC TW TG CM) (wX3 cI a0 a1 a2 a3 a4 a5 a6 a7 a8 a9 a10 a11 R o.2 HR HS HN TB LN PS TC TW TG CM) (some (.int o.1)) := by
  refine Ct.of (cc := cX3_done) (maxL := 2) (ret := (some .int)) (by decide) rfl (Nat.le_of_ble_eq_true rfl) ?_
  intro p e s m args below meth c A F hP hD hS ls hl
  obtain ⟨hx, hb, hml, hr, hown, hts, hlk, hK, hA⟩ := F
  have hown : s.vm.findClass RX3 = some m.cls := hown
  have hl : lv_has ls 2 [(0, .ref a0), (1, .int x1)] := hl
  have hinX3 : ∀ w ∈ wsX30, w ∈ wsX3_done := by decide +kernel
  have hfl10 := hts (.fieldLink RX3 10 "CraneGuard" "site" "LCraneGuard$Site;") (by decide +kernel)
  unfold fX3_done at hf
  refine lv_aload_n hx hb dX3_done_0 rfl (lv_at hl 0 rfl) ?_
  refine va_get (D := D) (ci := 3) (v := .ref a1) (C := RX3) (T := TX3) (N := 4) hx hb hts hinX3 hown hK.1 hP 0 rfl rfl 0 (by decide) hfl10 (fun _ h9 => h9) rfl dX3_done_1 ?_
  refine lv_iload_n hx hb dX3_done_4 rfl (lv_at hl 1 rfl) ?_
  obtain ⟨v1, h2, hf⟩ := kBind hf
  refine kgoR (krunV (wc := (wX1 cI a1 a2 R)) (As := [.int x1]) (rest := []) (ci := 1) hx hb hml hown hts hK (kX1_hasCrane l D cI a1 a2 R x1 v1 h2) gX3_done_X1_hasCrane rfl rfl rfl hdX1_hasCrane ⟨Nat.le_of_ble_eq_true rfl, Nat.le_of_ble_eq_true rfl⟩ (hP.sub [1, 2] rfl) (hD.sub [1, 2] (by decide) rfl) rfl rfl rfl rfl hl.1 rfl (Nat.le_of_ble_eq_true rfl) dX3_done_5 ⟨Nat.zero_le _, Nat.zero_le _⟩) hP hD hS hA [1, 2] rfl (fun H locs hP hS => ?_)
  refine kif_neb (tgt := 14) hx hb dX3_done_8 (by decide) (fun c3 => ?_) (fun c3 => ?_)
  · have hf := kIfT c3 hf
    refine lv_aload_n hx hb dX3_done_14 rfl (lv_at hl 0 rfl) ?_
    refine lv_iconst (v := (1 : Int32)) hx hb dX3_done_15 (by decide) ?_
    refine lv_iload_n hx hb dX3_done_16 rfl (lv_at hl 1 rfl) ?_
    refine kishl hx hb dX3_done_17 ?_
    obtain ⟨v4, h5, hf⟩ := kBind hf
    refine kgoA (krunV (wc := (wX3 cI a0 a1 a2 a3 a4 a5 a6 a7 a8 a9 a10 a11 R R2 HR HS HN TB LN PS TC TW TG CM)) (As := [.int (jshl (1 : Int32) x1)]) (rest := []) (ci := 3) hx hb hml hown hts hK (kX3_ticksUntilDone l D cI fu a0 a1 a2 a3 a4 a5 a6 a7 a8 a9 a10 a11 R R2 HR HS HN TB LN PS TC TW TG CM (jshl (1 : Int32) x1) v4 h5) gX3_done_X3_ticksUntilDone rfl rfl rfl hdX3_ticksUntilDone ⟨Nat.le_of_ble_eq_true rfl, Nat.le_of_ble_eq_true rfl⟩ hP hD rfl rfl rfl rfl hl.1 rfl (Nat.le_of_ble_eq_true rfl) dX3_done_18 ⟨Nat.zero_le _, Nat.zero_le _⟩) hD hS hA (fun H locs hP hD hS => ?_)
    have he := Option.some.inj hf
    subst he
    exact kreti hx hb hr hlk hP hD hS dX3_done_21
  · have hf := kIfF c3 hf
    refine lv_bipush (v := (-101 : Int32)) hx hb dX3_done_11 (by decide) ?_
    have he := Option.some.inj hf
    subst he
    exact kreti hx hb hr hlk hP hD hS dX3_done_13
set_option maxHeartbeats 4000000 in
set_option maxRecDepth 100000 in
theorem kX3_foretoldWaits (l : Launch) (D : va_G) (cI : ClassId) (fu : Nat) (a0 a1 a2 a3 a4 a5 a6 a7 a8 a9 a10 a11 : Nat) (R : (Nat → Int32)) (R2 : (Nat → Int32)) (HR : (Nat → Int32)) (HS : Int32) (HN : Int32) (TB : (Nat → Int32)) (LN : Int32) (PS : Int32) (TC : (Nat → Int32)) (TW : (Nat → Int32)) (TG : (Nat → Int32)) (CM : Int32) (x1 : Int32) (x2 : Int32) (o : Int32 × (Nat → Int32)) (hf : fX3_foretoldWaits fu R R2 x1 x2 = some o) : Ct l yX3_foretoldWaits wsX3_foretoldWaits { frames := 5, cells := 0, slots := 0, locals := 115 } D cI [.ref a0, .int x1, .int x2] (wX3 cI a0 a1 a2 a3 a4 a5 a6 a7 a8 a9 a10 a11 R R2 HR HS HN TB LN PS TC TW TG CM) (wX3 cI a0 a1 a2 a3 a4 a5 a6 a7 a8 a9 a10 a11 R o.2 HR HS HN TB LN PS TC TW TG CM) (some (.int o.1)) := by
  refine Ct.of (cc := cX3_foretoldWaits) (maxL := 6) (ret := (some .int)) (by decide) rfl (Nat.le_of_ble_eq_true rfl) ?_
  intro p e s m args below meth c A F hP hD hS ls hl
  obtain ⟨hx, hb, hml, hr, hown, hts, hlk, hK, hA⟩ := F
  have hown : s.vm.findClass RX3 = some m.cls := hown
  have hl : lv_has ls 6 [(0, .ref a0), (1, .int x1), (2, .int x2)] := hl
  have hinX3 : ∀ w ∈ wsX30, w ∈ wsX3_foretoldWaits := by decide +kernel
  have hfl10 := hts (.fieldLink RX3 10 "CraneGuard" "site" "LCraneGuard$Site;") (by decide +kernel)
  have hfl16 := hts (.fieldLink RX3 16 "CraneGuard" "trial" "LCraneGuard$Site;") (by decide +kernel)
  unfold fX3_foretoldWaits at hf
  refine lv_aload_n hx hb dX3_foretoldWaits_0 rfl (lv_at hl 0 rfl) ?_
  refine va_get (D := D) (ci := 3) (v := .ref a3) (C := RX3) (T := TX3) (N := 4) hx hb hts hinX3 hown hK.1 hP 0 rfl rfl 1 (by decide) hfl16 (fun _ h9 => h9) rfl dX3_foretoldWaits_1 ?_
  refine lv_aload_n hx hb dX3_foretoldWaits_4 rfl (lv_at hl 0 rfl) ?_
  refine va_get (D := D) (ci := 3) (v := .ref a1) (C := RX3) (T := TX3) (N := 4) hx hb hts hinX3 hown hK.1 hP 0 rfl rfl 0 (by decide) hfl10 (fun _ h9 => h9) rfl dX3_foretoldWaits_5 ?_
  obtain ⟨v1, h2, hf⟩ := kBind hf
  refine kgoJ (wr := [(a0, .inr (3, [.ref a1, .ref a3, .ref a5, .ref a7])), (a5, .inr (0, [.ref a6, .int HS, .int HN])), (a6, .inl (cI, 660, .inl HR)), (a7, .inr (2, [.ref a8, .int LN, .int PS, .ref a9, .ref a10, .ref a11, .int CM])), (a8, .inl (cI, 80, .inl TB)), (a9, .inl (cI, 20, .inl TC)), (a10, .inl (cI, 20, .inl TW)), (a11, .inl (cI, 20, .inl TG))]) (w2 := (wX3 cI a0 a1 a2 a3 a4 a5 a6 a7 a8 a9 a10 a11 R v1 HR HS HN TB LN PS TC TW TG CM)) (krunV (wc := (wX1_X1 cI a3 a4 a1 a2 R2 R)) (As := [.ref a1]) (rest := []) (ci := 1) hx hb hml hown hts hK (kX1_copyFrom l D cI a3 a4 a1 a2 R2 R v1 h2) gX3_foretoldWaits_X1_copyFrom rfl rfl rfl hdX1_copyFrom ⟨Nat.le_of_ble_eq_true rfl, Nat.le_of_ble_eq_true rfl⟩ (hP.sub [3, 4, 1, 2] rfl) (hD.sub [3, 4, 1, 2] (by decide) rfl) rfl rfl rfl rfl hl.1 rfl (Nat.le_of_ble_eq_true rfl) dX3_foretoldWaits_8 ⟨Nat.zero_le _, Nat.zero_le _⟩) hP hD hS hA [3, 4, 1, 2] [0, 5, 6, 7, 8, 9, 10, 11] [0, 10, 11, 8, 9, 1, 2, 3, 4, 5, 6, 7] rfl rfl (by decide) (by decide) (by decide) rfl (fun H locs hP hD hS => ?_)
  refine lv_aload_n hx hb dX3_foretoldWaits_11 rfl (lv_at hl 0 rfl) ?_
  refine va_get (D := D) (ci := 3) (v := .ref a3) (C := RX3) (T := TX3) (N := 4) hx hb hts hinX3 hown hK.1 hP 0 rfl rfl 1 (by decide) hfl16 (fun _ h9 => h9) rfl dX3_foretoldWaits_12 ?_
  refine lv_iload_n hx hb dX3_foretoldWaits_15 rfl (lv_at hl 1 rfl) ?_
  obtain ⟨v3, h4, hf⟩ := kBind hf
  refine kgoR (krunV (wc := (wX1 cI a3 a4 v1)) (As := [.int x1]) (rest := []) (ci := 1) hx hb hml hown hts hK (kX1_waitOf l D cI a3 a4 v1 x1 v3 h4) gX3_foretoldWaits_X1_waitOf rfl rfl rfl hdX1_waitOf ⟨Nat.le_of_ble_eq_true rfl, Nat.le_of_ble_eq_true rfl⟩ (hP.sub [3, 4] rfl) (hD.sub [3, 4] (by decide) rfl) rfl rfl rfl rfl hl.1 rfl (Nat.le_of_ble_eq_true rfl) dX3_foretoldWaits_16 ⟨Nat.zero_le _, Nat.zero_le _⟩) hP hD hS hA [3, 4] rfl (fun H locs hP hS => ?_)
  refine lv_istore_n (lv' := [(3, .int v3), (0, .ref a0), (1, .int x1), (2, .int x2)]) hx hb dX3_foretoldWaits_19 rfl hl (by decide) rfl (fun ls hl => ?_)
  refine lv_iconst (v := (0 : Int32)) hx hb dX3_foretoldWaits_20 (by decide) ?_
  refine lv_istore (lv' := [(4, .int (0 : Int32)), (3, .int v3), (0, .ref a0), (1, .int x1), (2, .int x2)]) hx hb dX3_foretoldWaits_21 hl (by decide) rfl (fun ls hl => ?_)
  have hl : lv_has ls 6 [(4, .int (0 : Int32)), (3, .int v3), (0, .ref a0), (1, .int x1), (2, .int x2)] := hl
  refine klp hf (fun t23 : (Nat → Int32) × Int32 => (wX3 cI a0 a1 a2 a3 a4 a5 a6 a7 a8 a9 a10 a11 R t23.1 HR HS HN TB LN PS TC TW TG CM)) 6 (fun t23 : (Nat → Int32) × Int32 => [(4, .int t23.2), (3, .int v3), (0, .ref a0), (1, .int x1), (2, .int x2)]) ?_ hP hD hS hl
  intro t23 x23_ hf hI1 hO1 H locs ls hP hD hS hl
  unfold fX3_foretoldWaits_L23 at hf
  have hP : va_P D vwCl (wX3 cI a0 a1 a2 a3 a4 a5 a6 a7 a8 a9 a10 a11 R t23.1 HR HS HN TB LN PS TC TW TG CM) H := hP
  have hD : va_D A (wX3 cI a0 a1 a2 a3 a4 a5 a6 a7 a8 a9 a10 a11 R t23.1 HR HS HN TB LN PS TC TW TG CM) := hD
  have hl : lv_has ls 6 [(4, .int t23.2), (3, .int v3), (0, .ref a0), (1, .int x1), (2, .int x2)] := hl
  refine lv_iload hx hb dX3_foretoldWaits_23 (lv_at hl 0 rfl) ?_
  refine lv_iload_n hx hb dX3_foretoldWaits_25 rfl (lv_at hl 4 rfl) ?_
  refine lv_icmp_ge (tgt := 77) hx hb dX3_foretoldWaits_26 (by decide) (fun c18 => ?_) (fun c18 => ?_)
  · have hf := kIfT c18 hf
    refine lv_aload_n hx hb dX3_foretoldWaits_77 rfl (lv_at hl 2 rfl) ?_
    refine va_get (D := D) (ci := 3) (v := .ref a3) (C := RX3) (T := TX3) (N := 4) hx hb hts hinX3 hown hK.1 hP 0 rfl rfl 1 (by decide) hfl16 (fun _ h9 => h9) rfl dX3_foretoldWaits_78 ?_
    refine lv_iload_n hx hb dX3_foretoldWaits_81 rfl (lv_at hl 3 rfl) ?_
    obtain ⟨v19, h20, hf⟩ := kBind hf
    refine kgoR (krunV (wc := (wX1 cI a3 a4 t23.1)) (As := [.int x1]) (rest := []) (ci := 1) hx hb hml hown hts hK (kX1_waitOf l D cI a3 a4 t23.1 x1 v19 h20) gX3_foretoldWaits_X1_waitOf rfl rfl rfl hdX1_waitOf ⟨Nat.le_of_ble_eq_true rfl, Nat.le_of_ble_eq_true rfl⟩ (hP.sub [3, 4] rfl) (hD.sub [3, 4] (by decide) rfl) rfl rfl rfl rfl hl.1 rfl (Nat.le_of_ble_eq_true rfl) dX3_foretoldWaits_82 ⟨Nat.zero_le _, Nat.zero_le _⟩) hP hD hS hA [3, 4] rfl (fun H locs hP hS => ?_)
    refine lv_iload_n hx hb dX3_foretoldWaits_85 rfl (lv_at hl 1 rfl) ?_
    refine lv_isub hx hb dX3_foretoldWaits_86 ?_
    obtain ⟨z21, hz21⟩ : ∃ z : Int32, z = v19 - v3 := ⟨_, rfl⟩
    rw [← hz21] at hf
    rw [← hz21]
    have he := Option.some.inj hf
    have he := hO1 _ he.symm
    subst he
    exact kreti hx hb hr hlk hP hD hS dX3_foretoldWaits_87
  · have hf := kIfF c18 hf
    refine lv_aload_n hx hb dX3_foretoldWaits_29 rfl (lv_at hl 2 rfl) ?_
    refine va_get (D := D) (ci := 3) (v := .ref a3) (C := RX3) (T := TX3) (N := 4) hx hb hts hinX3 hown hK.1 hP 0 rfl rfl 1 (by decide) hfl16 (fun _ h9 => h9) rfl dX3_foretoldWaits_30 ?_
    refine lv_iload_n hx hb dX3_foretoldWaits_33 rfl (lv_at hl 3 rfl) ?_
    obtain ⟨v22, h23, hf⟩ := kBind hf
    refine kgoR (krunV (wc := (wX1 cI a3 a4 t23.1)) (As := [.int x1]) (rest := []) (ci := 1) hx hb hml hown hts hK (kX1_waitOf l D cI a3 a4 t23.1 x1 v22 h23) gX3_foretoldWaits_X1_waitOf rfl rfl rfl hdX1_waitOf ⟨Nat.le_of_ble_eq_true rfl, Nat.le_of_ble_eq_true rfl⟩ (hP.sub [3, 4] rfl) (hD.sub [3, 4] (by decide) rfl) rfl rfl rfl rfl hl.1 rfl (Nat.le_of_ble_eq_true rfl) dX3_foretoldWaits_34 ⟨Nat.zero_le _, Nat.zero_le _⟩) hP hD hS hA [3, 4] rfl (fun H locs hP hS => ?_)
    refine lv_istore (lv' := [(5, .int v22), (4, .int t23.2), (3, .int v3), (0, .ref a0), (1, .int x1), (2, .int x2)]) hx hb dX3_foretoldWaits_37 hl (by decide) rfl (fun ls hl => ?_)
    refine lv_aload_n hx hb dX3_foretoldWaits_39 rfl (lv_at hl 3 rfl) ?_
    refine va_get (D := D) (ci := 3) (v := .ref a3) (C := RX3) (T := TX3) (N := 4) hx hb hts hinX3 hown hK.1 hP 0 rfl rfl 1 (by decide) hfl16 (fun _ h9 => h9) rfl dX3_foretoldWaits_40 ?_
    obtain ⟨v24, h25, hf⟩ := kBind hf
    refine kgoJ (wr := [(a0, .inr (3, [.ref a1, .ref a3, .ref a5, .ref a7])), (a1, .inr (1, [.ref a2])), (a2, .inl (cI, 132, .inl R)), (a5, .inr (0, [.ref a6, .int HS, .int HN])), (a6, .inl (cI, 660, .inl HR)), (a7, .inr (2, [.ref a8, .int LN, .int PS, .ref a9, .ref a10, .ref a11, .int CM])), (a8, .inl (cI, 80, .inl TB)), (a9, .inl (cI, 20, .inl TC)), (a10, .inl (cI, 20, .inl TW)), (a11, .inl (cI, 20, .inl TG))]) (w2 := (wX3 cI a0 a1 a2 a3 a4 a5 a6 a7 a8 a9 a10 a11 R v24.2 HR HS HN TB LN PS TC TW TG CM)) (krunV (wc := (wX1 cI a3 a4 t23.1)) (As := []) (rest := []) (ci := 1) hx hb hml hown hts hK (kX1_passTick l D cI fu a3 a4 t23.1 v24 h25) gX3_foretoldWaits_X1_passTick rfl rfl rfl hdX1_passTick ⟨Nat.le_of_ble_eq_true rfl, Nat.le_of_ble_eq_true rfl⟩ (hP.sub [3, 4] rfl) (hD.sub [3, 4] (by decide) rfl) rfl rfl rfl rfl hl.1 rfl (Nat.le_of_ble_eq_true rfl) dX3_foretoldWaits_43 ⟨Nat.zero_le _, Nat.zero_le _⟩) hP hD hS hA [3, 4] [0, 1, 2, 5, 6, 7, 8, 9, 10, 11] [0, 1, 2, 10, 11, 3, 4, 5, 6, 7, 8, 9] rfl rfl (by decide) (by decide) (by decide) rfl (fun H locs hP hD hS => ?_)
    refine kif_neb (tgt := 71) hx hb dX3_foretoldWaits_46 (by decide) (fun c26 => ?_) (fun c26 => ?_)
    · have hf := kIfT c26 hf
      refine lv_iinc (v := t23.2 + (1 : Int32)) (lv' := [(4, .int (t23.2 + (1 : Int32))), (5, .int v22), (3, .int v3), (0, .ref a0), (1, .int x1), (2, .int x2)]) hx hb dX3_foretoldWaits_71 hl (k := 1) rfl rfl (by decide) rfl (fun ls hl => ?_)
      refine lv_goto (tgt := 23) hx hb dX3_foretoldWaits_74 (by decide) ?_
      obtain ⟨z27, hz27⟩ : ∃ z : Int32, z = t23.2 + (1 : Int32) := ⟨_, rfl⟩
      rw [← hz27] at hf
      have he := (Option.some.inj hf).symm
      have hl : lv_has ls 6 [(4, .int z27), (3, .int v3), (0, .ref a0), (1, .int x1), (2, .int x2)] := by rw [hz27]; exact lv_sub hl [0, 2, 3, 4, 5] rfl
      exact hI1 _ he H locs ls hP hD hS hl
    · have hf := kIfF c26 hf
      refine lv_iload hx hb dX3_foretoldWaits_49 (lv_at hl 0 rfl) ?_
      refine lv_iload_n hx hb dX3_foretoldWaits_51 rfl (lv_at hl 2 rfl) ?_
      refine lv_isub hx hb dX3_foretoldWaits_52 ?_
      refine lv_iload_n hx hb dX3_foretoldWaits_53 rfl (lv_at hl 5 rfl) ?_
      refine lv_iload hx hb dX3_foretoldWaits_54 (lv_at hl 1 rfl) ?_
      refine lv_isub hx hb dX3_foretoldWaits_56 ?_
      refine lv_aload_n hx hb dX3_foretoldWaits_57 rfl (lv_at hl 3 rfl) ?_
      refine va_get (D := D) (ci := 3) (v := .ref a3) (C := RX3) (T := TX3) (N := 4) hx hb hts hinX3 hown hK.1 hP 0 rfl rfl 1 (by decide) hfl16 (fun _ h9 => h9) rfl dX3_foretoldWaits_58 ?_
      refine lv_iload_n hx hb dX3_foretoldWaits_61 rfl (lv_at hl 4 rfl) ?_
      obtain ⟨v28, h29, hf⟩ := kBind hf
      refine kgoR (krunV (wc := (wX1 cI a3 a4 v24.2)) (As := [.int x1]) (rest := [.int (x2 - t23.2), .int (v22 - v3)]) (ci := 1) hx hb hml hown hts hK (kX1_waitOf l D cI a3 a4 v24.2 x1 v28 h29) gX3_foretoldWaits_X1_waitOf rfl rfl rfl hdX1_waitOf ⟨Nat.le_of_ble_eq_true rfl, Nat.le_of_ble_eq_true rfl⟩ (hP.sub [3, 4] rfl) (hD.sub [3, 4] (by decide) rfl) rfl rfl rfl rfl hl.1 rfl (Nat.le_of_ble_eq_true rfl) dX3_foretoldWaits_62 ⟨Nat.zero_le _, Nat.zero_le _⟩) hP hD hS hA [3, 4] rfl (fun H locs hP hS => ?_)
      refine lv_iload hx hb dX3_foretoldWaits_65 (lv_at hl 0 rfl) ?_
      refine lv_isub hx hb dX3_foretoldWaits_67 ?_
      refine lv_imul hx hb dX3_foretoldWaits_68 ?_
      refine lv_iadd hx hb dX3_foretoldWaits_69 ?_
      obtain ⟨z30, hz30⟩ : ∃ z : Int32, z = (v22 - v3) + ((x2 - t23.2) * (v28 - v22)) := ⟨_, rfl⟩
      rw [← hz30] at hf
      rw [← hz30]
      have he := Option.some.inj hf
      have he := hO1 _ he.symm
      subst he
      exact kreti hx hb hr hlk hP hD hS dX3_foretoldWaits_70
set_option maxHeartbeats 4000000 in
set_option maxRecDepth 100000 in
theorem kX3_leave (l : Launch) (D : va_G) (cI : ClassId) (fu : Nat) (a0 a1 a2 a3 a4 a5 a6 a7 a8 a9 a10 a11 : Nat) (R : (Nat → Int32)) (R2 : (Nat → Int32)) (HR : (Nat → Int32)) (HS : Int32) (HN : Int32) (TB : (Nat → Int32)) (LN : Int32) (PS : Int32) (TC : (Nat → Int32)) (TW : (Nat → Int32)) (TG : (Nat → Int32)) (CM : Int32) (x1 : Int32) (x2 : Bool) (o : Int32 × (Nat → Int32) × (Nat → Int32) × Int32 × Int32) (hf : fX3_leave fu R HR HS HN x1 x2 = some o) : Ct l yX3_leave wsX3_leave { frames := 3, cells := 0, slots := 0, locals := 71 } D cI [.ref a0, .int x1, .int (bI x2)] (wX3 cI a0 a1 a2 a3 a4 a5 a6 a7 a8 a9 a10 a11 R R2 HR HS HN TB LN PS TC TW TG CM) (wX3 cI a0 a1 a2 a3 a4 a5 a6 a7 a8 a9 a10 a11 o.2.1 R2 o.2.2.1 o.2.2.2.1 o.2.2.2.2 TB LN PS TC TW TG CM) (some (.int o.1)) := by
  refine Ct.of (cc := cX3_leave) (maxL := 4) (ret := (some .int)) (by decide) rfl (Nat.le_of_ble_eq_true rfl) ?_
  intro p e s m args below meth c A F hP hD hS ls hl
  obtain ⟨hx, hb, hml, hr, hown, hts, hlk, hK, hA⟩ := F
  have hown : s.vm.findClass RX3 = some m.cls := hown
  have hl : lv_has ls 4 [(0, .ref a0), (1, .int x1), (2, .int (bI x2))] := hl
  have hinX3 : ∀ w ∈ wsX30, w ∈ wsX3_leave := by decide +kernel
  have hfl10 := hts (.fieldLink RX3 10 "CraneGuard" "site" "LCraneGuard$Site;") (by decide +kernel)
  have hfl22 := hts (.fieldLink RX3 22 "CraneGuard" "history" "LCraneGuard$History;") (by decide +kernel)
  unfold fX3_leave at hf
  refine lv_aload_n hx hb dX3_leave_0 rfl (lv_at hl 0 rfl) ?_
  refine va_get (D := D) (ci := 3) (v := .ref a1) (C := RX3) (T := TX3) (N := 4) hx hb hts hinX3 hown hK.1 hP 0 rfl rfl 0 (by decide) hfl10 (fun _ h9 => h9) rfl dX3_leave_1 ?_
  refine lv_iload_n hx hb dX3_leave_4 rfl (lv_at hl 1 rfl) ?_
  obtain ⟨v1, h2, hf⟩ := kBind hf
  refine kgoR (krunV (wc := (wX1 cI a1 a2 R)) (As := [.int x1]) (rest := []) (ci := 1) hx hb hml hown hts hK (kX1_hasCrane l D cI a1 a2 R x1 v1 h2) gX3_leave_X1_hasCrane rfl rfl rfl hdX1_hasCrane ⟨Nat.le_of_ble_eq_true rfl, Nat.le_of_ble_eq_true rfl⟩ (hP.sub [1, 2] rfl) (hD.sub [1, 2] (by decide) rfl) rfl rfl rfl rfl hl.1 rfl (Nat.le_of_ble_eq_true rfl) dX3_leave_5 ⟨Nat.zero_le _, Nat.zero_le _⟩) hP hD hS hA [1, 2] rfl (fun H locs hP hS => ?_)
  refine kif_neb (tgt := 14) hx hb dX3_leave_8 (by decide) (fun c3 => ?_) (fun c3 => ?_)
  · have hf := kIfT c3 hf
    refine lv_aload_n hx hb dX3_leave_14 rfl (lv_at hl 0 rfl) ?_
    refine va_get (D := D) (ci := 3) (v := .ref a1) (C := RX3) (T := TX3) (N := 4) hx hb hts hinX3 hown hK.1 hP 0 rfl rfl 0 (by decide) hfl10 (fun _ h9 => h9) rfl dX3_leave_15 ?_
    refine lv_iload_n hx hb dX3_leave_18 rfl (lv_at hl 1 rfl) ?_
    obtain ⟨v4, h5, hf⟩ := kBind hf
    refine kgoR (krunV (wc := (wX1 cI a1 a2 R)) (As := [.int x1]) (rest := []) (ci := 1) hx hb hml hown hts hK (kX1_isLeft l D cI a1 a2 R x1 v4 h5) gX3_leave_X1_isLeft rfl rfl rfl hdX1_isLeft ⟨Nat.le_of_ble_eq_true rfl, Nat.le_of_ble_eq_true rfl⟩ (hP.sub [1, 2] rfl) (hD.sub [1, 2] (by decide) rfl) rfl rfl rfl rfl hl.1 rfl (Nat.le_of_ble_eq_true rfl) dX3_leave_19 ⟨Nat.zero_le _, Nat.zero_le _⟩) hP hD hS hA [1, 2] rfl (fun H locs hP hS => ?_)
    refine lv_istore_n (lv' := [(3, .int (bI v4)), (0, .ref a0), (1, .int x1), (2, .int (bI x2))]) hx hb dX3_leave_22 rfl hl (by decide) rfl (fun ls hl => ?_)
    refine lv_iload_n hx hb dX3_leave_23 rfl (lv_at hl 3 rfl) ?_
    refine kif_eqb (tgt := 45) hx hb dX3_leave_24 (by decide) (fun c6 => ?_) (fun c6 => ?_)
    · have hf := kIfF c6 hf
      refine lv_aload_n hx hb dX3_leave_45 rfl (lv_at hl 1 rfl) ?_
      refine va_get (D := D) (ci := 3) (v := .ref a5) (C := RX3) (T := TX3) (N := 4) hx hb hts hinX3 hown hK.1 hP 0 rfl rfl 2 (by decide) hfl22 (fun _ h9 => h9) rfl dX3_leave_46 ?_
      refine lv_aload_n hx hb dX3_leave_49 rfl (lv_at hl 1 rfl) ?_
      refine va_get (D := D) (ci := 3) (v := .ref a1) (C := RX3) (T := TX3) (N := 4) hx hb hts hinX3 hown hK.1 hP 0 rfl rfl 0 (by decide) hfl10 (fun _ h9 => h9) rfl dX3_leave_50 ?_
      obtain ⟨v7, h8, hf⟩ := kBind hf
      refine kgoJ (wr := [(a0, .inr (3, [.ref a1, .ref a3, .ref a5, .ref a7])), (a3, .inr (1, [.ref a4])), (a4, .inl (cI, 132, .inl R2)), (a7, .inr (2, [.ref a8, .int LN, .int PS, .ref a9, .ref a10, .ref a11, .int CM])), (a8, .inl (cI, 80, .inl TB)), (a9, .inl (cI, 20, .inl TC)), (a10, .inl (cI, 20, .inl TW)), (a11, .inl (cI, 20, .inl TG))]) (w2 := (wX3 cI a0 a1 a2 a3 a4 a5 a6 a7 a8 a9 a10 a11 R R2 v7.1 v7.2.1 v7.2.2 TB LN PS TC TW TG CM)) (krunV (wc := (wX0_X1 cI a5 a6 a1 a2 HR HS HN R)) (As := [.ref a1]) (rest := []) (ci := 0) hx hb hml hown hts hK (kX0_keep l D cI a5 a6 a1 a2 HR HS HN R v7 h8) gX3_leave_X0_keep rfl rfl rfl hdX0_keep ⟨Nat.le_of_ble_eq_true rfl, Nat.le_of_ble_eq_true rfl⟩ (hP.sub [5, 6, 1, 2] rfl) (hD.sub [5, 6, 1, 2] (by decide) rfl) rfl rfl rfl rfl hl.1 rfl (Nat.le_of_ble_eq_true rfl) dX3_leave_53 ⟨Nat.zero_le _, Nat.zero_le _⟩) hP hD hS hA [5, 6, 1, 2] [0, 3, 4, 7, 8, 9, 10, 11] [0, 10, 11, 1, 2, 8, 9, 3, 4, 5, 6, 7] rfl rfl (by decide) (by decide) (by decide) rfl (fun H locs hP hD hS => ?_)
      refine lv_iload_n hx hb dX3_leave_56 rfl (lv_at hl 3 rfl) ?_
      refine kif_eqb (tgt := 71) hx hb dX3_leave_57 (by decide) (fun c9 => ?_) (fun c9 => ?_)
      · have hf := kIfF c9 hf
        refine lv_aload_n hx hb dX3_leave_71 rfl (lv_at hl 1 rfl) ?_
        refine va_get (D := D) (ci := 3) (v := .ref a1) (C := RX3) (T := TX3) (N := 4) hx hb hts hinX3 hown hK.1 hP 0 rfl rfl 0 (by decide) hfl10 (fun _ h9 => h9) rfl dX3_leave_72 ?_
        refine lv_iload_n hx hb dX3_leave_75 rfl (lv_at hl 2 rfl) ?_
        obtain ⟨v10, h11, hf⟩ := kBind hf
        refine kgoJ (wr := [(a0, .inr (3, [.ref a1, .ref a3, .ref a5, .ref a7])), (a3, .inr (1, [.ref a4])), (a4, .inl (cI, 132, .inl R2)), (a5, .inr (0, [.ref a6, .int v7.2.1, .int v7.2.2])), (a6, .inl (cI, 660, .inl v7.1)), (a7, .inr (2, [.ref a8, .int LN, .int PS, .ref a9, .ref a10, .ref a11, .int CM])), (a8, .inl (cI, 80, .inl TB)), (a9, .inl (cI, 20, .inl TC)), (a10, .inl (cI, 20, .inl TW)), (a11, .inl (cI, 20, .inl TG))]) (w2 := (wX3 cI a0 a1 a2 a3 a4 a5 a6 a7 a8 a9 a10 a11 v10 R2 v7.1 v7.2.1 v7.2.2 TB LN PS TC TW TG CM)) (krunV (wc := (wX1 cI a1 a2 R)) (As := [.int x1]) (rest := []) (ci := 1) hx hb hml hown hts hK (kX1_takeBack l D cI a1 a2 R x1 v10 h11) gX3_leave_X1_takeBack rfl rfl rfl hdX1_takeBack ⟨Nat.le_of_ble_eq_true rfl, Nat.le_of_ble_eq_true rfl⟩ (hP.sub [1, 2] rfl) (hD.sub [1, 2] (by decide) rfl) rfl rfl rfl rfl hl.1 rfl (Nat.le_of_ble_eq_true rfl) dX3_leave_76 ⟨Nat.zero_le _, Nat.zero_le _⟩) hP hD hS hA [1, 2] [0, 3, 4, 5, 6, 7, 8, 9, 10, 11] [0, 10, 11, 1, 2, 3, 4, 5, 6, 7, 8, 9] rfl rfl (by decide) (by decide) (by decide) rfl (fun H locs hP hD hS => ?_)
        refine lv_iload_n hx hb dX3_leave_79 rfl (lv_at hl 0 rfl) ?_
        refine kif_eqb (tgt := 87) hx hb dX3_leave_80 (by decide) (fun c12 => ?_) (fun c12 => ?_)
        · have hf := kIfF c12 hf
          refine lv_iconst (v := (0 : Int32)) hx hb dX3_leave_87 (by decide) ?_
          have he := Option.some.inj hf
          subst he
          exact kreti hx hb hr hlk hP hD hS dX3_leave_88
        · have hf := kIfT c12 hf
          refine lv_iconst (v := (1 : Int32)) hx hb dX3_leave_83 (by decide) ?_
          refine lv_goto (tgt := 88) hx hb dX3_leave_84 (by decide) ?_
          have he := Option.some.inj hf
          subst he
          exact kreti hx hb hr hlk hP hD hS dX3_leave_88
      · have hf := kIfT c9 hf
        refine lv_aload_n hx hb dX3_leave_60 rfl (lv_at hl 1 rfl) ?_
        refine va_get (D := D) (ci := 3) (v := .ref a1) (C := RX3) (T := TX3) (N := 4) hx hb hts hinX3 hown hK.1 hP 0 rfl rfl 0 (by decide) hfl10 (fun _ h9 => h9) rfl dX3_leave_61 ?_
        refine lv_iload_n hx hb dX3_leave_64 rfl (lv_at hl 2 rfl) ?_
        obtain ⟨v13, h14, hf⟩ := kBind hf
        refine kgoJ (wr := [(a0, .inr (3, [.ref a1, .ref a3, .ref a5, .ref a7])), (a3, .inr (1, [.ref a4])), (a4, .inl (cI, 132, .inl R2)), (a5, .inr (0, [.ref a6, .int v7.2.1, .int v7.2.2])), (a6, .inl (cI, 660, .inl v7.1)), (a7, .inr (2, [.ref a8, .int LN, .int PS, .ref a9, .ref a10, .ref a11, .int CM])), (a8, .inl (cI, 80, .inl TB)), (a9, .inl (cI, 20, .inl TC)), (a10, .inl (cI, 20, .inl TW)), (a11, .inl (cI, 20, .inl TG))]) (w2 := (wX3 cI a0 a1 a2 a3 a4 a5 a6 a7 a8 a9 a10 a11 v13 R2 v7.1 v7.2.1 v7.2.2 TB LN PS TC TW TG CM)) (krunV (wc := (wX1 cI a1 a2 R)) (As := [.int x1]) (rest := []) (ci := 1) hx hb hml hown hts hK (kX1_leaveToWind l D cI a1 a2 R x1 v13 h14) gX3_leave_X1_leaveToWind rfl rfl rfl hdX1_leaveToWind ⟨Nat.le_of_ble_eq_true rfl, Nat.le_of_ble_eq_true rfl⟩ (hP.sub [1, 2] rfl) (hD.sub [1, 2] (by decide) rfl) rfl rfl rfl rfl hl.1 rfl (Nat.le_of_ble_eq_true rfl) dX3_leave_65 ⟨Nat.zero_le _, Nat.zero_le _⟩) hP hD hS hA [1, 2] [0, 3, 4, 5, 6, 7, 8, 9, 10, 11] [0, 10, 11, 1, 2, 3, 4, 5, 6, 7, 8, 9] rfl rfl (by decide) (by decide) (by decide) rfl (fun H locs hP hD hS => ?_)
        refine lv_goto (tgt := 79) hx hb dX3_leave_68 (by decide) ?_
        refine lv_iload_n hx hb dX3_leave_79 rfl (lv_at hl 0 rfl) ?_
        refine kif_eqb (tgt := 87) hx hb dX3_leave_80 (by decide) (fun c15 => ?_) (fun c15 => ?_)
        · have hf := kIfF c15 hf
          refine lv_iconst (v := (0 : Int32)) hx hb dX3_leave_87 (by decide) ?_
          have he := Option.some.inj hf
          subst he
          exact kreti hx hb hr hlk hP hD hS dX3_leave_88
        · have hf := kIfT c15 hf
          refine lv_iconst (v := (1 : Int32)) hx hb dX3_leave_83 (by decide) ?_
          refine lv_goto (tgt := 88) hx hb dX3_leave_84 (by decide) ?_
          have he := Option.some.inj hf
          subst he
          exact kreti hx hb hr hlk hP hD hS dX3_leave_88
    · have hf := kIfT c6 hf
      refine lv_iload_n hx hb dX3_leave_27 rfl (lv_at hl 0 rfl) ?_
      refine kif_neb (tgt := 45) hx hb dX3_leave_28 (by decide) (fun c16 => ?_) (fun c16 => ?_)
      · have hf := kIfT c16 hf
        refine lv_aload_n hx hb dX3_leave_45 rfl (lv_at hl 1 rfl) ?_
        refine va_get (D := D) (ci := 3) (v := .ref a5) (C := RX3) (T := TX3) (N := 4) hx hb hts hinX3 hown hK.1 hP 0 rfl rfl 2 (by decide) hfl22 (fun _ h9 => h9) rfl dX3_leave_46 ?_
        refine lv_aload_n hx hb dX3_leave_49 rfl (lv_at hl 1 rfl) ?_
        refine va_get (D := D) (ci := 3) (v := .ref a1) (C := RX3) (T := TX3) (N := 4) hx hb hts hinX3 hown hK.1 hP 0 rfl rfl 0 (by decide) hfl10 (fun _ h9 => h9) rfl dX3_leave_50 ?_
        obtain ⟨v17, h18, hf⟩ := kBind hf
        refine kgoJ (wr := [(a0, .inr (3, [.ref a1, .ref a3, .ref a5, .ref a7])), (a3, .inr (1, [.ref a4])), (a4, .inl (cI, 132, .inl R2)), (a7, .inr (2, [.ref a8, .int LN, .int PS, .ref a9, .ref a10, .ref a11, .int CM])), (a8, .inl (cI, 80, .inl TB)), (a9, .inl (cI, 20, .inl TC)), (a10, .inl (cI, 20, .inl TW)), (a11, .inl (cI, 20, .inl TG))]) (w2 := (wX3 cI a0 a1 a2 a3 a4 a5 a6 a7 a8 a9 a10 a11 R R2 v17.1 v17.2.1 v17.2.2 TB LN PS TC TW TG CM)) (krunV (wc := (wX0_X1 cI a5 a6 a1 a2 HR HS HN R)) (As := [.ref a1]) (rest := []) (ci := 0) hx hb hml hown hts hK (kX0_keep l D cI a5 a6 a1 a2 HR HS HN R v17 h18) gX3_leave_X0_keep rfl rfl rfl hdX0_keep ⟨Nat.le_of_ble_eq_true rfl, Nat.le_of_ble_eq_true rfl⟩ (hP.sub [5, 6, 1, 2] rfl) (hD.sub [5, 6, 1, 2] (by decide) rfl) rfl rfl rfl rfl hl.1 rfl (Nat.le_of_ble_eq_true rfl) dX3_leave_53 ⟨Nat.zero_le _, Nat.zero_le _⟩) hP hD hS hA [5, 6, 1, 2] [0, 3, 4, 7, 8, 9, 10, 11] [0, 10, 11, 1, 2, 8, 9, 3, 4, 5, 6, 7] rfl rfl (by decide) (by decide) (by decide) rfl (fun H locs hP hD hS => ?_)
        refine lv_iload_n hx hb dX3_leave_56 rfl (lv_at hl 3 rfl) ?_
        refine kif_eqb (tgt := 71) hx hb dX3_leave_57 (by decide) (fun c19 => ?_) (fun c19 => ?_)
        · have hf := kIfF c19 hf
          refine lv_aload_n hx hb dX3_leave_71 rfl (lv_at hl 1 rfl) ?_
          refine va_get (D := D) (ci := 3) (v := .ref a1) (C := RX3) (T := TX3) (N := 4) hx hb hts hinX3 hown hK.1 hP 0 rfl rfl 0 (by decide) hfl10 (fun _ h9 => h9) rfl dX3_leave_72 ?_
          refine lv_iload_n hx hb dX3_leave_75 rfl (lv_at hl 2 rfl) ?_
          obtain ⟨v20, h21, hf⟩ := kBind hf
          refine kgoJ (wr := [(a0, .inr (3, [.ref a1, .ref a3, .ref a5, .ref a7])), (a3, .inr (1, [.ref a4])), (a4, .inl (cI, 132, .inl R2)), (a5, .inr (0, [.ref a6, .int v17.2.1, .int v17.2.2])), (a6, .inl (cI, 660, .inl v17.1)), (a7, .inr (2, [.ref a8, .int LN, .int PS, .ref a9, .ref a10, .ref a11, .int CM])), (a8, .inl (cI, 80, .inl TB)), (a9, .inl (cI, 20, .inl TC)), (a10, .inl (cI, 20, .inl TW)), (a11, .inl (cI, 20, .inl TG))]) (w2 := (wX3 cI a0 a1 a2 a3 a4 a5 a6 a7 a8 a9 a10 a11 v20 R2 v17.1 v17.2.1 v17.2.2 TB LN PS TC TW TG CM)) (krunV (wc := (wX1 cI a1 a2 R)) (As := [.int x1]) (rest := []) (ci := 1) hx hb hml hown hts hK (kX1_takeBack l D cI a1 a2 R x1 v20 h21) gX3_leave_X1_takeBack rfl rfl rfl hdX1_takeBack ⟨Nat.le_of_ble_eq_true rfl, Nat.le_of_ble_eq_true rfl⟩ (hP.sub [1, 2] rfl) (hD.sub [1, 2] (by decide) rfl) rfl rfl rfl rfl hl.1 rfl (Nat.le_of_ble_eq_true rfl) dX3_leave_76 ⟨Nat.zero_le _, Nat.zero_le _⟩) hP hD hS hA [1, 2] [0, 3, 4, 5, 6, 7, 8, 9, 10, 11] [0, 10, 11, 1, 2, 3, 4, 5, 6, 7, 8, 9] rfl rfl (by decide) (by decide) (by decide) rfl (fun H locs hP hD hS => ?_)
          refine lv_iload_n hx hb dX3_leave_79 rfl (lv_at hl 0 rfl) ?_
          refine kif_eqb (tgt := 87) hx hb dX3_leave_80 (by decide) (fun c22 => ?_) (fun c22 => ?_)
          · have hf := kIfF c22 hf
            refine lv_iconst (v := (0 : Int32)) hx hb dX3_leave_87 (by decide) ?_
            have he := Option.some.inj hf
            subst he
            exact kreti hx hb hr hlk hP hD hS dX3_leave_88
          · have hf := kIfT c22 hf
            refine lv_iconst (v := (1 : Int32)) hx hb dX3_leave_83 (by decide) ?_
            refine lv_goto (tgt := 88) hx hb dX3_leave_84 (by decide) ?_
            have he := Option.some.inj hf
            subst he
            exact kreti hx hb hr hlk hP hD hS dX3_leave_88
        · have hf := kIfT c19 hf
          refine lv_aload_n hx hb dX3_leave_60 rfl (lv_at hl 1 rfl) ?_
          refine va_get (D := D) (ci := 3) (v := .ref a1) (C := RX3) (T := TX3) (N := 4) hx hb hts hinX3 hown hK.1 hP 0 rfl rfl 0 (by decide) hfl10 (fun _ h9 => h9) rfl dX3_leave_61 ?_
          refine lv_iload_n hx hb dX3_leave_64 rfl (lv_at hl 2 rfl) ?_
          obtain ⟨v23, h24, hf⟩ := kBind hf
          refine kgoJ (wr := [(a0, .inr (3, [.ref a1, .ref a3, .ref a5, .ref a7])), (a3, .inr (1, [.ref a4])), (a4, .inl (cI, 132, .inl R2)), (a5, .inr (0, [.ref a6, .int v17.2.1, .int v17.2.2])), (a6, .inl (cI, 660, .inl v17.1)), (a7, .inr (2, [.ref a8, .int LN, .int PS, .ref a9, .ref a10, .ref a11, .int CM])), (a8, .inl (cI, 80, .inl TB)), (a9, .inl (cI, 20, .inl TC)), (a10, .inl (cI, 20, .inl TW)), (a11, .inl (cI, 20, .inl TG))]) (w2 := (wX3 cI a0 a1 a2 a3 a4 a5 a6 a7 a8 a9 a10 a11 v23 R2 v17.1 v17.2.1 v17.2.2 TB LN PS TC TW TG CM)) (krunV (wc := (wX1 cI a1 a2 R)) (As := [.int x1]) (rest := []) (ci := 1) hx hb hml hown hts hK (kX1_leaveToWind l D cI a1 a2 R x1 v23 h24) gX3_leave_X1_leaveToWind rfl rfl rfl hdX1_leaveToWind ⟨Nat.le_of_ble_eq_true rfl, Nat.le_of_ble_eq_true rfl⟩ (hP.sub [1, 2] rfl) (hD.sub [1, 2] (by decide) rfl) rfl rfl rfl rfl hl.1 rfl (Nat.le_of_ble_eq_true rfl) dX3_leave_65 ⟨Nat.zero_le _, Nat.zero_le _⟩) hP hD hS hA [1, 2] [0, 3, 4, 5, 6, 7, 8, 9, 10, 11] [0, 10, 11, 1, 2, 3, 4, 5, 6, 7, 8, 9] rfl rfl (by decide) (by decide) (by decide) rfl (fun H locs hP hD hS => ?_)
          refine lv_goto (tgt := 79) hx hb dX3_leave_68 (by decide) ?_
          refine lv_iload_n hx hb dX3_leave_79 rfl (lv_at hl 0 rfl) ?_
          refine kif_eqb (tgt := 87) hx hb dX3_leave_80 (by decide) (fun c25 => ?_) (fun c25 => ?_)
          · have hf := kIfF c25 hf
            refine lv_iconst (v := (0 : Int32)) hx hb dX3_leave_87 (by decide) ?_
            have he := Option.some.inj hf
            subst he
            exact kreti hx hb hr hlk hP hD hS dX3_leave_88
          · have hf := kIfT c25 hf
            refine lv_iconst (v := (1 : Int32)) hx hb dX3_leave_83 (by decide) ?_
            refine lv_goto (tgt := 88) hx hb dX3_leave_84 (by decide) ?_
            have he := Option.some.inj hf
            subst he
            exact kreti hx hb hr hlk hP hD hS dX3_leave_88
      · have hf := kIfF c16 hf
        refine lv_aload_n hx hb dX3_leave_31 rfl (lv_at hl 1 rfl) ?_
        refine va_get (D := D) (ci := 3) (v := .ref a1) (C := RX3) (T := TX3) (N := 4) hx hb hts hinX3 hown hK.1 hP 0 rfl rfl 0 (by decide) hfl10 (fun _ h9 => h9) rfl dX3_leave_32 ?_
        refine lv_iload_n hx hb dX3_leave_35 rfl (lv_at hl 2 rfl) ?_
        obtain ⟨v26, h27, hf⟩ := kBind hf
        refine kgoR (krunV (wc := (wX1 cI a1 a2 R)) (As := [.int x1]) (rest := []) (ci := 1) hx hb hml hown hts hK (kX1_canBeLeft l D cI fu a1 a2 R x1 v26 h27) gX3_leave_X1_canBeLeft rfl rfl rfl hdX1_canBeLeft ⟨Nat.le_of_ble_eq_true rfl, Nat.le_of_ble_eq_true rfl⟩ (hP.sub [1, 2] rfl) (hD.sub [1, 2] (by decide) rfl) rfl rfl rfl rfl hl.1 rfl (Nat.le_of_ble_eq_true rfl) dX3_leave_36 ⟨Nat.zero_le _, Nat.zero_le _⟩) hP hD hS hA [1, 2] rfl (fun H locs hP hS => ?_)
        refine kif_neb (tgt := 45) hx hb dX3_leave_39 (by decide) (fun c28 => ?_) (fun c28 => ?_)
        · have hf := kIfT c28 hf
          refine lv_aload_n hx hb dX3_leave_45 rfl (lv_at hl 1 rfl) ?_
          refine va_get (D := D) (ci := 3) (v := .ref a5) (C := RX3) (T := TX3) (N := 4) hx hb hts hinX3 hown hK.1 hP 0 rfl rfl 2 (by decide) hfl22 (fun _ h9 => h9) rfl dX3_leave_46 ?_
          refine lv_aload_n hx hb dX3_leave_49 rfl (lv_at hl 1 rfl) ?_
          refine va_get (D := D) (ci := 3) (v := .ref a1) (C := RX3) (T := TX3) (N := 4) hx hb hts hinX3 hown hK.1 hP 0 rfl rfl 0 (by decide) hfl10 (fun _ h9 => h9) rfl dX3_leave_50 ?_
          obtain ⟨v29, h30, hf⟩ := kBind hf
          refine kgoJ (wr := [(a0, .inr (3, [.ref a1, .ref a3, .ref a5, .ref a7])), (a3, .inr (1, [.ref a4])), (a4, .inl (cI, 132, .inl R2)), (a7, .inr (2, [.ref a8, .int LN, .int PS, .ref a9, .ref a10, .ref a11, .int CM])), (a8, .inl (cI, 80, .inl TB)), (a9, .inl (cI, 20, .inl TC)), (a10, .inl (cI, 20, .inl TW)), (a11, .inl (cI, 20, .inl TG))]) (w2 := (wX3 cI a0 a1 a2 a3 a4 a5 a6 a7 a8 a9 a10 a11 R R2 v29.1 v29.2.1 v29.2.2 TB LN PS TC TW TG CM)) (krunV (wc := (wX0_X1 cI a5 a6 a1 a2 HR HS HN R)) (As := [.ref a1]) (rest := []) (ci := 0) hx hb hml hown hts hK (kX0_keep l D cI a5 a6 a1 a2 HR HS HN R v29 h30) gX3_leave_X0_keep rfl rfl rfl hdX0_keep ⟨Nat.le_of_ble_eq_true rfl, Nat.le_of_ble_eq_true rfl⟩ (hP.sub [5, 6, 1, 2] rfl) (hD.sub [5, 6, 1, 2] (by decide) rfl) rfl rfl rfl rfl hl.1 rfl (Nat.le_of_ble_eq_true rfl) dX3_leave_53 ⟨Nat.zero_le _, Nat.zero_le _⟩) hP hD hS hA [5, 6, 1, 2] [0, 3, 4, 7, 8, 9, 10, 11] [0, 10, 11, 1, 2, 8, 9, 3, 4, 5, 6, 7] rfl rfl (by decide) (by decide) (by decide) rfl (fun H locs hP hD hS => ?_)
          refine lv_iload_n hx hb dX3_leave_56 rfl (lv_at hl 3 rfl) ?_
          refine kif_eqb (tgt := 71) hx hb dX3_leave_57 (by decide) (fun c31 => ?_) (fun c31 => ?_)
          · have hf := kIfF c31 hf
            refine lv_aload_n hx hb dX3_leave_71 rfl (lv_at hl 1 rfl) ?_
            refine va_get (D := D) (ci := 3) (v := .ref a1) (C := RX3) (T := TX3) (N := 4) hx hb hts hinX3 hown hK.1 hP 0 rfl rfl 0 (by decide) hfl10 (fun _ h9 => h9) rfl dX3_leave_72 ?_
            refine lv_iload_n hx hb dX3_leave_75 rfl (lv_at hl 2 rfl) ?_
            obtain ⟨v32, h33, hf⟩ := kBind hf
            refine kgoJ (wr := [(a0, .inr (3, [.ref a1, .ref a3, .ref a5, .ref a7])), (a3, .inr (1, [.ref a4])), (a4, .inl (cI, 132, .inl R2)), (a5, .inr (0, [.ref a6, .int v29.2.1, .int v29.2.2])), (a6, .inl (cI, 660, .inl v29.1)), (a7, .inr (2, [.ref a8, .int LN, .int PS, .ref a9, .ref a10, .ref a11, .int CM])), (a8, .inl (cI, 80, .inl TB)), (a9, .inl (cI, 20, .inl TC)), (a10, .inl (cI, 20, .inl TW)), (a11, .inl (cI, 20, .inl TG))]) (w2 := (wX3 cI a0 a1 a2 a3 a4 a5 a6 a7 a8 a9 a10 a11 v32 R2 v29.1 v29.2.1 v29.2.2 TB LN PS TC TW TG CM)) (krunV (wc := (wX1 cI a1 a2 R)) (As := [.int x1]) (rest := []) (ci := 1) hx hb hml hown hts hK (kX1_takeBack l D cI a1 a2 R x1 v32 h33) gX3_leave_X1_takeBack rfl rfl rfl hdX1_takeBack ⟨Nat.le_of_ble_eq_true rfl, Nat.le_of_ble_eq_true rfl⟩ (hP.sub [1, 2] rfl) (hD.sub [1, 2] (by decide) rfl) rfl rfl rfl rfl hl.1 rfl (Nat.le_of_ble_eq_true rfl) dX3_leave_76 ⟨Nat.zero_le _, Nat.zero_le _⟩) hP hD hS hA [1, 2] [0, 3, 4, 5, 6, 7, 8, 9, 10, 11] [0, 10, 11, 1, 2, 3, 4, 5, 6, 7, 8, 9] rfl rfl (by decide) (by decide) (by decide) rfl (fun H locs hP hD hS => ?_)
            refine lv_iload_n hx hb dX3_leave_79 rfl (lv_at hl 0 rfl) ?_
            refine kif_eqb (tgt := 87) hx hb dX3_leave_80 (by decide) (fun c34 => ?_) (fun c34 => ?_)
            · have hf := kIfF c34 hf
              refine lv_iconst (v := (0 : Int32)) hx hb dX3_leave_87 (by decide) ?_
              have he := Option.some.inj hf
              subst he
              exact kreti hx hb hr hlk hP hD hS dX3_leave_88
            · have hf := kIfT c34 hf
              refine lv_iconst (v := (1 : Int32)) hx hb dX3_leave_83 (by decide) ?_
              refine lv_goto (tgt := 88) hx hb dX3_leave_84 (by decide) ?_
              have he := Option.some.inj hf
              subst he
              exact kreti hx hb hr hlk hP hD hS dX3_leave_88
          · have hf := kIfT c31 hf
            refine lv_aload_n hx hb dX3_leave_60 rfl (lv_at hl 1 rfl) ?_
            refine va_get (D := D) (ci := 3) (v := .ref a1) (C := RX3) (T := TX3) (N := 4) hx hb hts hinX3 hown hK.1 hP 0 rfl rfl 0 (by decide) hfl10 (fun _ h9 => h9) rfl dX3_leave_61 ?_
            refine lv_iload_n hx hb dX3_leave_64 rfl (lv_at hl 2 rfl) ?_
            obtain ⟨v35, h36, hf⟩ := kBind hf
            refine kgoJ (wr := [(a0, .inr (3, [.ref a1, .ref a3, .ref a5, .ref a7])), (a3, .inr (1, [.ref a4])), (a4, .inl (cI, 132, .inl R2)), (a5, .inr (0, [.ref a6, .int v29.2.1, .int v29.2.2])), (a6, .inl (cI, 660, .inl v29.1)), (a7, .inr (2, [.ref a8, .int LN, .int PS, .ref a9, .ref a10, .ref a11, .int CM])), (a8, .inl (cI, 80, .inl TB)), (a9, .inl (cI, 20, .inl TC)), (a10, .inl (cI, 20, .inl TW)), (a11, .inl (cI, 20, .inl TG))]) (w2 := (wX3 cI a0 a1 a2 a3 a4 a5 a6 a7 a8 a9 a10 a11 v35 R2 v29.1 v29.2.1 v29.2.2 TB LN PS TC TW TG CM)) (krunV (wc := (wX1 cI a1 a2 R)) (As := [.int x1]) (rest := []) (ci := 1) hx hb hml hown hts hK (kX1_leaveToWind l D cI a1 a2 R x1 v35 h36) gX3_leave_X1_leaveToWind rfl rfl rfl hdX1_leaveToWind ⟨Nat.le_of_ble_eq_true rfl, Nat.le_of_ble_eq_true rfl⟩ (hP.sub [1, 2] rfl) (hD.sub [1, 2] (by decide) rfl) rfl rfl rfl rfl hl.1 rfl (Nat.le_of_ble_eq_true rfl) dX3_leave_65 ⟨Nat.zero_le _, Nat.zero_le _⟩) hP hD hS hA [1, 2] [0, 3, 4, 5, 6, 7, 8, 9, 10, 11] [0, 10, 11, 1, 2, 3, 4, 5, 6, 7, 8, 9] rfl rfl (by decide) (by decide) (by decide) rfl (fun H locs hP hD hS => ?_)
            refine lv_goto (tgt := 79) hx hb dX3_leave_68 (by decide) ?_
            refine lv_iload_n hx hb dX3_leave_79 rfl (lv_at hl 0 rfl) ?_
            refine kif_eqb (tgt := 87) hx hb dX3_leave_80 (by decide) (fun c37 => ?_) (fun c37 => ?_)
            · have hf := kIfF c37 hf
              refine lv_iconst (v := (0 : Int32)) hx hb dX3_leave_87 (by decide) ?_
              have he := Option.some.inj hf
              subst he
              exact kreti hx hb hr hlk hP hD hS dX3_leave_88
            · have hf := kIfT c37 hf
              refine lv_iconst (v := (1 : Int32)) hx hb dX3_leave_83 (by decide) ?_
              refine lv_goto (tgt := 88) hx hb dX3_leave_84 (by decide) ?_
              have he := Option.some.inj hf
              subst he
              exact kreti hx hb hr hlk hP hD hS dX3_leave_88
        · have hf := kIfF c28 hf
          refine lv_bipush (v := (-103 : Int32)) hx hb dX3_leave_42 (by decide) ?_
          have he := Option.some.inj hf
          subst he
          exact kreti hx hb hr hlk hP hD hS dX3_leave_44
  · have hf := kIfF c3 hf
    refine lv_bipush (v := (-101 : Int32)) hx hb dX3_leave_11 (by decide) ?_
    have he := Option.some.inj hf
    subst he
    exact kreti hx hb hr hlk hP hD hS dX3_leave_13
set_option maxHeartbeats 4000000 in
set_option maxRecDepth 100000 in
theorem kX3_needs (l : Launch) (D : va_G) (cI : ClassId) (a0 a1 a2 a3 a4 a5 a6 a7 a8 a9 a10 a11 : Nat) (R : (Nat → Int32)) (R2 : (Nat → Int32)) (HR : (Nat → Int32)) (HS : Int32) (HN : Int32) (TB : (Nat → Int32)) (LN : Int32) (PS : Int32) (TC : (Nat → Int32)) (TW : (Nat → Int32)) (TG : (Nat → Int32)) (CM : Int32) (x1 : Int32) (o : Int32) (hf : fX3_needs R x1 = some o) : Ct l yX3_needs wsX3_needs { frames := 3, cells := 0, slots := 0, locals := 65 } D cI [.ref a0, .int x1] (wX3 cI a0 a1 a2 a3 a4 a5 a6 a7 a8 a9 a10 a11 R R2 HR HS HN TB LN PS TC TW TG CM) (wX3 cI a0 a1 a2 a3 a4 a5 a6 a7 a8 a9 a10 a11 R R2 HR HS HN TB LN PS TC TW TG CM) (some (.int o)) := by
  refine Ct.of (cc := cX3_needs) (maxL := 2) (ret := (some .int)) (by decide) rfl (Nat.le_of_ble_eq_true rfl) ?_
  intro p e s m args below meth c A F hP hD hS ls hl
  obtain ⟨hx, hb, hml, hr, hown, hts, hlk, hK, hA⟩ := F
  have hown : s.vm.findClass RX3 = some m.cls := hown
  have hl : lv_has ls 2 [(0, .ref a0), (1, .int x1)] := hl
  have hinX3 : ∀ w ∈ wsX30, w ∈ wsX3_needs := by decide +kernel
  have hfl10 := hts (.fieldLink RX3 10 "CraneGuard" "site" "LCraneGuard$Site;") (by decide +kernel)
  unfold fX3_needs at hf
  refine lv_aload_n hx hb dX3_needs_0 rfl (lv_at hl 0 rfl) ?_
  refine va_get (D := D) (ci := 3) (v := .ref a1) (C := RX3) (T := TX3) (N := 4) hx hb hts hinX3 hown hK.1 hP 0 rfl rfl 0 (by decide) hfl10 (fun _ h9 => h9) rfl dX3_needs_1 ?_
  refine lv_iload_n hx hb dX3_needs_4 rfl (lv_at hl 1 rfl) ?_
  obtain ⟨v1, h2, hf⟩ := kBind hf
  refine kgoR (krunV (wc := (wX1 cI a1 a2 R)) (As := [.int x1]) (rest := []) (ci := 1) hx hb hml hown hts hK (kX1_hasCrane l D cI a1 a2 R x1 v1 h2) gX3_needs_X1_hasCrane rfl rfl rfl hdX1_hasCrane ⟨Nat.le_of_ble_eq_true rfl, Nat.le_of_ble_eq_true rfl⟩ (hP.sub [1, 2] rfl) (hD.sub [1, 2] (by decide) rfl) rfl rfl rfl rfl hl.1 rfl (Nat.le_of_ble_eq_true rfl) dX3_needs_5 ⟨Nat.zero_le _, Nat.zero_le _⟩) hP hD hS hA [1, 2] rfl (fun H locs hP hS => ?_)
  refine kif_neb (tgt := 14) hx hb dX3_needs_8 (by decide) (fun c3 => ?_) (fun c3 => ?_)
  · have hf := kIfT c3 hf
    refine lv_aload_n hx hb dX3_needs_14 rfl (lv_at hl 0 rfl) ?_
    refine va_get (D := D) (ci := 3) (v := .ref a1) (C := RX3) (T := TX3) (N := 4) hx hb hts hinX3 hown hK.1 hP 0 rfl rfl 0 (by decide) hfl10 (fun _ h9 => h9) rfl dX3_needs_15 ?_
    refine lv_iload_n hx hb dX3_needs_18 rfl (lv_at hl 1 rfl) ?_
    obtain ⟨v4, h5, hf⟩ := kBind hf
    refine kgoR (krunV (wc := (wX1 cI a1 a2 R)) (As := [.int x1]) (rest := []) (ci := 1) hx hb hml hown hts hK (kX1_hasTarget l D cI a1 a2 R x1 v4 h5) gX3_needs_X1_hasTarget rfl rfl rfl hdX1_hasTarget ⟨Nat.le_of_ble_eq_true rfl, Nat.le_of_ble_eq_true rfl⟩ (hP.sub [1, 2] rfl) (hD.sub [1, 2] (by decide) rfl) rfl rfl rfl rfl hl.1 rfl (Nat.le_of_ble_eq_true rfl) dX3_needs_19 ⟨Nat.zero_le _, Nat.zero_le _⟩) hP hD hS hA [1, 2] rfl (fun H locs hP hS => ?_)
    refine kif_eqb (tgt := 36) hx hb dX3_needs_22 (by decide) (fun c6 => ?_) (fun c6 => ?_)
    · have hf := kIfF c6 hf
      refine lv_iconst (v := (0 : Int32)) hx hb dX3_needs_36 (by decide) ?_
      have he := Option.some.inj hf
      subst he
      exact kreti hx hb hr hlk hP hD hS dX3_needs_37
    · have hf := kIfT c6 hf
      refine lv_aload_n hx hb dX3_needs_25 rfl (lv_at hl 0 rfl) ?_
      refine va_get (D := D) (ci := 3) (v := .ref a1) (C := RX3) (T := TX3) (N := 4) hx hb hts hinX3 hown hK.1 hP 0 rfl rfl 0 (by decide) hfl10 (fun _ h9 => h9) rfl dX3_needs_26 ?_
      refine lv_iload_n hx hb dX3_needs_29 rfl (lv_at hl 1 rfl) ?_
      obtain ⟨v7, h8, hf⟩ := kBind hf
      refine kgoR (krunV (wc := (wX1 cI a1 a2 R)) (As := [.int x1]) (rest := []) (ci := 1) hx hb hml hown hts hK (kX1_ticksToTarget l D cI a1 a2 R x1 v7 h8) gX3_needs_X1_ticksToTarget rfl rfl rfl hdX1_ticksToTarget ⟨Nat.le_of_ble_eq_true rfl, Nat.le_of_ble_eq_true rfl⟩ (hP.sub [1, 2] rfl) (hD.sub [1, 2] (by decide) rfl) rfl rfl rfl rfl hl.1 rfl (Nat.le_of_ble_eq_true rfl) dX3_needs_30 ⟨Nat.zero_le _, Nat.zero_le _⟩) hP hD hS hA [1, 2] rfl (fun H locs hP hS => ?_)
      refine lv_goto (tgt := 37) hx hb dX3_needs_33 (by decide) ?_
      have he := Option.some.inj hf
      subst he
      exact kreti hx hb hr hlk hP hD hS dX3_needs_37
  · have hf := kIfF c3 hf
    refine lv_bipush (v := (-101 : Int32)) hx hb dX3_needs_11 (by decide) ?_
    have he := Option.some.inj hf
    subst he
    exact kreti hx hb hr hlk hP hD hS dX3_needs_13
set_option maxHeartbeats 4000000 in
set_option maxRecDepth 100000 in
theorem kX3_note (l : Launch) (D : va_G) (cI : ClassId) (a0 a1 a2 a3 a4 a5 a6 a7 a8 a9 a10 a11 : Nat) (R : (Nat → Int32)) (R2 : (Nat → Int32)) (HR : (Nat → Int32)) (HS : Int32) (HN : Int32) (TB : (Nat → Int32)) (LN : Int32) (PS : Int32) (TC : (Nat → Int32)) (TW : (Nat → Int32)) (TG : (Nat → Int32)) (CM : Int32) (x1 : Int32) (x2 : Int32) (o : Int32) (hf : fX3_note R x1 x2 = some o) : Ct l yX3_note wsX3_note { frames := 1, cells := 0, slots := 0, locals := 22 } D cI [.ref a0, .int x1, .int x2] (wX3 cI a0 a1 a2 a3 a4 a5 a6 a7 a8 a9 a10 a11 R R2 HR HS HN TB LN PS TC TW TG CM) (wX3 cI a0 a1 a2 a3 a4 a5 a6 a7 a8 a9 a10 a11 R R2 HR HS HN TB LN PS TC TW TG CM) (some (.int o)) := by
  refine Ct.of (cc := cX3_note) (maxL := 3) (ret := (some .int)) (by decide) rfl (Nat.le_of_ble_eq_true rfl) ?_
  intro p e s m args below meth c A F hP hD hS ls hl
  obtain ⟨hx, hb, hml, hr, hown, hts, hlk, hK, hA⟩ := F
  have hown : s.vm.findClass RX3 = some m.cls := hown
  have hl : lv_has ls 3 [(0, .ref a0), (1, .int x1), (2, .int x2)] := hl
  have hinX3 : ∀ w ∈ wsX30, w ∈ wsX3_note := by decide +kernel
  have hfl10 := hts (.fieldLink RX3 10 "CraneGuard" "site" "LCraneGuard$Site;") (by decide +kernel)
  unfold fX3_note at hf
  refine lv_iload_n hx hb dX3_note_0 rfl (lv_at hl 1 rfl) ?_
  refine lv_if_lt (tgt := 15) hx hb dX3_note_1 (by decide) (fun c1 => ?_) (fun c1 => ?_)
  · have hf := kIfT c1 hf
    refine lv_bipush (v := (-101 : Int32)) hx hb dX3_note_15 (by decide) ?_
    have he := Option.some.inj hf
    subst he
    exact kreti hx hb hr hlk hP hD hS dX3_note_17
  · have hf := kIfF c1 hf
    refine lv_iload_n hx hb dX3_note_4 rfl (lv_at hl 1 rfl) ?_
    refine lv_aload_n hx hb dX3_note_5 rfl (lv_at hl 0 rfl) ?_
    refine va_get (D := D) (ci := 3) (v := .ref a1) (C := RX3) (T := TX3) (N := 4) hx hb hts hinX3 hown hK.1 hP 0 rfl rfl 0 (by decide) hfl10 (fun _ h9 => h9) rfl dX3_note_6 ?_
    obtain ⟨v2, h3, hf⟩ := kBind hf
    refine kgoR (krunV (wc := (wX1 cI a1 a2 R)) (As := []) (rest := [.int x1]) (ci := 1) hx hb hml hown hts hK (kX1_noteCount l D cI a1 a2 R v2 h3) gX3_note_X1_noteCount rfl rfl rfl hdX1_noteCount ⟨Nat.le_of_ble_eq_true rfl, Nat.le_of_ble_eq_true rfl⟩ (hP.sub [1, 2] rfl) (hD.sub [1, 2] (by decide) rfl) rfl rfl rfl rfl hl.1 rfl (Nat.le_of_ble_eq_true rfl) dX3_note_9 ⟨Nat.zero_le _, Nat.zero_le _⟩) hP hD hS hA [1, 2] rfl (fun H locs hP hS => ?_)
    refine lv_icmp_lt (tgt := 18) hx hb dX3_note_12 (by decide) (fun c4 => ?_) (fun c4 => ?_)
    · have hf := kIfT c4 hf
      refine lv_iload_n hx hb dX3_note_18 rfl (lv_at hl 2 rfl) ?_
      refine lv_if_lt (tgt := 27) hx hb dX3_note_19 (by decide) (fun c5 => ?_) (fun c5 => ?_)
      · have hf := kIfT c5 hf
        refine lv_bipush (v := (-102 : Int32)) hx hb dX3_note_27 (by decide) ?_
        have he := Option.some.inj hf
        subst he
        exact kreti hx hb hr hlk hP hD hS dX3_note_29
      · have hf := kIfF c5 hf
        refine lv_iload_n hx hb dX3_note_22 rfl (lv_at hl 2 rfl) ?_
        refine lv_iconst (v := (4 : Int32)) hx hb dX3_note_23 (by decide) ?_
        refine lv_icmp_lt (tgt := 30) hx hb dX3_note_24 (by decide) (fun c6 => ?_) (fun c6 => ?_)
        · have hf := kIfT c6 hf
          refine lv_aload_n hx hb dX3_note_30 rfl (lv_at hl 0 rfl) ?_
          refine va_get (D := D) (ci := 3) (v := .ref a1) (C := RX3) (T := TX3) (N := 4) hx hb hts hinX3 hown hK.1 hP 0 rfl rfl 0 (by decide) hfl10 (fun _ h9 => h9) rfl dX3_note_31 ?_
          refine lv_iload_n hx hb dX3_note_34 rfl (lv_at hl 1 rfl) ?_
          refine lv_iload_n hx hb dX3_note_35 rfl (lv_at hl 2 rfl) ?_
          obtain ⟨v7, h8, hf⟩ := kBind hf
          refine kgoR (krunV (wc := (wX1 cI a1 a2 R)) (As := [.int x1, .int x2]) (rest := []) (ci := 1) hx hb hml hown hts hK (kX1_partOfNote l D cI a1 a2 R x1 x2 v7 h8) gX3_note_X1_partOfNote rfl rfl rfl hdX1_partOfNote ⟨Nat.le_of_ble_eq_true rfl, Nat.le_of_ble_eq_true rfl⟩ (hP.sub [1, 2] rfl) (hD.sub [1, 2] (by decide) rfl) rfl rfl rfl rfl hl.1 rfl (Nat.le_of_ble_eq_true rfl) dX3_note_36 ⟨Nat.zero_le _, Nat.zero_le _⟩) hP hD hS hA [1, 2] rfl (fun H locs hP hS => ?_)
          have he := Option.some.inj hf
          subst he
          exact kreti hx hb hr hlk hP hD hS dX3_note_39
        · have hf := kIfF c6 hf
          refine lv_bipush (v := (-102 : Int32)) hx hb dX3_note_27 (by decide) ?_
          have he := Option.some.inj hf
          subst he
          exact kreti hx hb hr hlk hP hD hS dX3_note_29
    · have hf := kIfF c4 hf
      refine lv_bipush (v := (-101 : Int32)) hx hb dX3_note_15 (by decide) ?_
      have he := Option.some.inj hf
      subst he
      exact kreti hx hb hr hlk hP hD hS dX3_note_17
set_option maxHeartbeats 4000000 in
set_option maxRecDepth 100000 in
theorem kX3_notes (l : Launch) (D : va_G) (cI : ClassId) (a0 a1 a2 a3 a4 a5 a6 a7 a8 a9 a10 a11 : Nat) (R : (Nat → Int32)) (R2 : (Nat → Int32)) (HR : (Nat → Int32)) (HS : Int32) (HN : Int32) (TB : (Nat → Int32)) (LN : Int32) (PS : Int32) (TC : (Nat → Int32)) (TW : (Nat → Int32)) (TG : (Nat → Int32)) (CM : Int32) (o : Int32) (hf : fX3_notes R = some o) : Ct l yX3_notes wsX3_notes { frames := 1, cells := 0, slots := 0, locals := 20 } D cI [.ref a0] (wX3 cI a0 a1 a2 a3 a4 a5 a6 a7 a8 a9 a10 a11 R R2 HR HS HN TB LN PS TC TW TG CM) (wX3 cI a0 a1 a2 a3 a4 a5 a6 a7 a8 a9 a10 a11 R R2 HR HS HN TB LN PS TC TW TG CM) (some (.int o)) := by
  refine Ct.of (cc := cX3_notes) (maxL := 1) (ret := (some .int)) (by decide) rfl (Nat.le_of_ble_eq_true rfl) ?_
  intro p e s m args below meth c A F hP hD hS ls hl
  obtain ⟨hx, hb, hml, hr, hown, hts, hlk, hK, hA⟩ := F
  have hown : s.vm.findClass RX3 = some m.cls := hown
  have hl : lv_has ls 1 [(0, .ref a0)] := hl
  have hinX3 : ∀ w ∈ wsX30, w ∈ wsX3_notes := by decide +kernel
  have hfl10 := hts (.fieldLink RX3 10 "CraneGuard" "site" "LCraneGuard$Site;") (by decide +kernel)
  unfold fX3_notes at hf
  refine lv_aload_n hx hb dX3_notes_0 rfl (lv_at hl 0 rfl) ?_
  refine va_get (D := D) (ci := 3) (v := .ref a1) (C := RX3) (T := TX3) (N := 4) hx hb hts hinX3 hown hK.1 hP 0 rfl rfl 0 (by decide) hfl10 (fun _ h9 => h9) rfl dX3_notes_1 ?_
  obtain ⟨v1, h2, hf⟩ := kBind hf
  refine kgoR (krunV (wc := (wX1 cI a1 a2 R)) (As := []) (rest := []) (ci := 1) hx hb hml hown hts hK (kX1_noteCount l D cI a1 a2 R v1 h2) gX3_notes_X1_noteCount rfl rfl rfl hdX1_noteCount ⟨Nat.le_of_ble_eq_true rfl, Nat.le_of_ble_eq_true rfl⟩ (hP.sub [1, 2] rfl) (hD.sub [1, 2] (by decide) rfl) rfl rfl rfl rfl hl.1 rfl (Nat.le_of_ble_eq_true rfl) dX3_notes_4 ⟨Nat.zero_le _, Nat.zero_le _⟩) hP hD hS hA [1, 2] rfl (fun H locs hP hS => ?_)
  have he := Option.some.inj hf
  subst he
  exact kreti hx hb hr hlk hP hD hS dX3_notes_7
set_option maxHeartbeats 4000000 in
set_option maxRecDepth 100000 in
theorem kX3_occupants (l : Launch) (D : va_G) (cI : ClassId) (fu : Nat) (a0 a1 a2 a3 a4 a5 a6 a7 a8 a9 a10 a11 : Nat) (R : (Nat → Int32)) (R2 : (Nat → Int32)) (HR : (Nat → Int32)) (HS : Int32) (HN : Int32) (TB : (Nat → Int32)) (LN : Int32) (PS : Int32) (TC : (Nat → Int32)) (TW : (Nat → Int32)) (TG : (Nat → Int32)) (CM : Int32) (x1 : Int32) (o : Int32) (hf : fX3_occupants fu R x1 = some o) : Ct l yX3_occupants wsX3_occupants { frames := 3, cells := 0, slots := 0, locals := 71 } D cI [.ref a0, .int x1] (wX3 cI a0 a1 a2 a3 a4 a5 a6 a7 a8 a9 a10 a11 R R2 HR HS HN TB LN PS TC TW TG CM) (wX3 cI a0 a1 a2 a3 a4 a5 a6 a7 a8 a9 a10 a11 R R2 HR HS HN TB LN PS TC TW TG CM) (some (.int o)) := by
  refine Ct.of (cc := cX3_occupants) (maxL := 2) (ret := (some .int)) (by decide) rfl (Nat.le_of_ble_eq_true rfl) ?_
  intro p e s m args below meth c A F hP hD hS ls hl
  obtain ⟨hx, hb, hml, hr, hown, hts, hlk, hK, hA⟩ := F
  have hown : s.vm.findClass RX3 = some m.cls := hown
  have hl : lv_has ls 2 [(0, .ref a0), (1, .int x1)] := hl
  have hinX3 : ∀ w ∈ wsX30, w ∈ wsX3_occupants := by decide +kernel
  have hfl10 := hts (.fieldLink RX3 10 "CraneGuard" "site" "LCraneGuard$Site;") (by decide +kernel)
  unfold fX3_occupants at hf
  refine lv_iload_n hx hb dX3_occupants_0 rfl (lv_at hl 1 rfl) ?_
  obtain ⟨v1, h2, hf⟩ := kBind hf
  refine kgoR (krunS (wc := ([] : va_W)) (As := [.int x1]) (rest := []) hx hb hml hown hts hK (kX3_isZone l D cI x1 v1 h2) gX3_occupants_X3_isZone rfl rfl rfl hdX3_isZone ⟨Nat.le_of_ble_eq_true rfl, Nat.le_of_ble_eq_true rfl⟩ k_P0 (k_D0 A) rfl hl.1 rfl (Nat.le_of_ble_eq_true rfl) dX3_occupants_1 ⟨Nat.zero_le _, Nat.zero_le _⟩) hP hD hS hA [] rfl (fun H locs hP hS => ?_)
  refine kif_neb (tgt := 10) hx hb dX3_occupants_4 (by decide) (fun c3 => ?_) (fun c3 => ?_)
  · have hf := kIfT c3 hf
    refine lv_aload_n hx hb dX3_occupants_10 rfl (lv_at hl 0 rfl) ?_
    refine va_get (D := D) (ci := 3) (v := .ref a1) (C := RX3) (T := TX3) (N := 4) hx hb hts hinX3 hown hK.1 hP 0 rfl rfl 0 (by decide) hfl10 (fun _ h9 => h9) rfl dX3_occupants_11 ?_
    refine lv_iload_n hx hb dX3_occupants_14 rfl (lv_at hl 1 rfl) ?_
    obtain ⟨v4, h5, hf⟩ := kBind hf
    refine kgoR (krunV (wc := (wX1 cI a1 a2 R)) (As := [.int x1]) (rest := []) (ci := 1) hx hb hml hown hts hK (kX1_occupantsOf l D cI fu a1 a2 R x1 v4 h5) gX3_occupants_X1_occupantsOf rfl rfl rfl hdX1_occupantsOf ⟨Nat.le_of_ble_eq_true rfl, Nat.le_of_ble_eq_true rfl⟩ (hP.sub [1, 2] rfl) (hD.sub [1, 2] (by decide) rfl) rfl rfl rfl rfl hl.1 rfl (Nat.le_of_ble_eq_true rfl) dX3_occupants_15 ⟨Nat.zero_le _, Nat.zero_le _⟩) hP hD hS hA [1, 2] rfl (fun H locs hP hS => ?_)
    have he := Option.some.inj hf
    subst he
    exact kreti hx hb hr hlk hP hD hS dX3_occupants_18
  · have hf := kIfF c3 hf
    refine lv_bipush (v := (-101 : Int32)) hx hb dX3_occupants_7 (by decide) ?_
    have he := Option.some.inj hf
    subst he
    exact kreti hx hb hr hlk hP hD hS dX3_occupants_9
set_option maxHeartbeats 4000000 in
set_option maxRecDepth 100000 in
theorem kX3_override (l : Launch) (D : va_G) (cI : ClassId) (fu : Nat) (a0 a1 a2 a3 a4 a5 a6 a7 a8 a9 a10 a11 : Nat) (R : (Nat → Int32)) (R2 : (Nat → Int32)) (HR : (Nat → Int32)) (HS : Int32) (HN : Int32) (TB : (Nat → Int32)) (LN : Int32) (PS : Int32) (TC : (Nat → Int32)) (TW : (Nat → Int32)) (TG : (Nat → Int32)) (CM : Int32) (x1 : Int32) (x2 : Int32) (o : Int32 × (Nat → Int32) × (Nat → Int32) × Int32 × Int32) (hf : fX3_override fu R HR HS HN x1 x2 = some o) : Ct l yX3_override wsX3_override { frames := 5, cells := 0, slots := 0, locals := 114 } D cI [.ref a0, .int x1, .int x2] (wX3 cI a0 a1 a2 a3 a4 a5 a6 a7 a8 a9 a10 a11 R R2 HR HS HN TB LN PS TC TW TG CM) (wX3 cI a0 a1 a2 a3 a4 a5 a6 a7 a8 a9 a10 a11 o.2.1 R2 o.2.2.1 o.2.2.2.1 o.2.2.2.2 TB LN PS TC TW TG CM) (some (.int o.1)) := by
  refine Ct.of (cc := cX3_override) (maxL := 4) (ret := (some .int)) (by decide) rfl (Nat.le_of_ble_eq_true rfl) ?_
  intro p e s m args below meth c A F hP hD hS ls hl
  obtain ⟨hx, hb, hml, hr, hown, hts, hlk, hK, hA⟩ := F
  have hown : s.vm.findClass RX3 = some m.cls := hown
  have hl : lv_has ls 4 [(0, .ref a0), (1, .int x1), (2, .int x2)] := hl
  have hinX3 : ∀ w ∈ wsX30, w ∈ wsX3_override := by decide +kernel
  have hfl10 := hts (.fieldLink RX3 10 "CraneGuard" "site" "LCraneGuard$Site;") (by decide +kernel)
  have hfl22 := hts (.fieldLink RX3 22 "CraneGuard" "history" "LCraneGuard$History;") (by decide +kernel)
  unfold fX3_override at hf
  refine lv_aload_n hx hb dX3_override_0 rfl (lv_at hl 0 rfl) ?_
  refine va_get (D := D) (ci := 3) (v := .ref a1) (C := RX3) (T := TX3) (N := 4) hx hb hts hinX3 hown hK.1 hP 0 rfl rfl 0 (by decide) hfl10 (fun _ h9 => h9) rfl dX3_override_1 ?_
  refine lv_iload_n hx hb dX3_override_4 rfl (lv_at hl 1 rfl) ?_
  obtain ⟨v1, h2, hf⟩ := kBind hf
  refine kgoR (krunV (wc := (wX1 cI a1 a2 R)) (As := [.int x1]) (rest := []) (ci := 1) hx hb hml hown hts hK (kX1_hasCrane l D cI a1 a2 R x1 v1 h2) gX3_override_X1_hasCrane rfl rfl rfl hdX1_hasCrane ⟨Nat.le_of_ble_eq_true rfl, Nat.le_of_ble_eq_true rfl⟩ (hP.sub [1, 2] rfl) (hD.sub [1, 2] (by decide) rfl) rfl rfl rfl rfl hl.1 rfl (Nat.le_of_ble_eq_true rfl) dX3_override_5 ⟨Nat.zero_le _, Nat.zero_le _⟩) hP hD hS hA [1, 2] rfl (fun H locs hP hS => ?_)
  refine kif_neb (tgt := 14) hx hb dX3_override_8 (by decide) (fun c3 => ?_) (fun c3 => ?_)
  · have hf := kIfT c3 hf
    refine lv_iload_n hx hb dX3_override_14 rfl (lv_at hl 2 rfl) ?_
    refine lv_iconst (v := (1 : Int32)) hx hb dX3_override_15 (by decide) ?_
    refine lv_icmp_lt (tgt := 25) hx hb dX3_override_16 (by decide) (fun c4 => ?_) (fun c4 => ?_)
    · have hf := kIfT c4 hf
      refine lv_bipush (v := (-102 : Int32)) hx hb dX3_override_25 (by decide) ?_
      have he := Option.some.inj hf
      subst he
      exact kreti hx hb hr hlk hP hD hS dX3_override_27
    · have hf := kIfF c4 hf
      refine lv_iload_n hx hb dX3_override_19 rfl (lv_at hl 2 rfl) ?_
      refine lv_bipush (v := (9 : Int32)) hx hb dX3_override_20 (by decide) ?_
      refine lv_icmp_le (tgt := 28) hx hb dX3_override_22 (by decide) (fun c5 => ?_) (fun c5 => ?_)
      · have hf := kIfT c5 hf
        refine lv_aload_n hx hb dX3_override_28 rfl (lv_at hl 0 rfl) ?_
        refine va_get (D := D) (ci := 3) (v := .ref a1) (C := RX3) (T := TX3) (N := 4) hx hb hts hinX3 hown hK.1 hP 0 rfl rfl 0 (by decide) hfl10 (fun _ h9 => h9) rfl dX3_override_29 ?_
        refine lv_iload_n hx hb dX3_override_32 rfl (lv_at hl 1 rfl) ?_
        obtain ⟨v6, h7, hf⟩ := kBind hf
        refine kgoR (krunV (wc := (wX1 cI a1 a2 R)) (As := [.int x1]) (rest := []) (ci := 1) hx hb hml hown hts hK (kX1_hasTarget l D cI a1 a2 R x1 v6 h7) gX3_override_X1_hasTarget rfl rfl rfl hdX1_hasTarget ⟨Nat.le_of_ble_eq_true rfl, Nat.le_of_ble_eq_true rfl⟩ (hP.sub [1, 2] rfl) (hD.sub [1, 2] (by decide) rfl) rfl rfl rfl rfl hl.1 rfl (Nat.le_of_ble_eq_true rfl) dX3_override_33 ⟨Nat.zero_le _, Nat.zero_le _⟩) hP hD hS hA [1, 2] rfl (fun H locs hP hS => ?_)
        refine kif_eqb (tgt := 50) hx hb dX3_override_36 (by decide) (fun c8 => ?_) (fun c8 => ?_)
        · have hf := kIfF c8 hf
          refine lv_bipush (v := (-103 : Int32)) hx hb dX3_override_50 (by decide) ?_
          have he := Option.some.inj hf
          subst he
          exact kreti hx hb hr hlk hP hD hS dX3_override_52
        · have hf := kIfT c8 hf
          refine lv_aload_n hx hb dX3_override_39 rfl (lv_at hl 0 rfl) ?_
          refine va_get (D := D) (ci := 3) (v := .ref a1) (C := RX3) (T := TX3) (N := 4) hx hb hts hinX3 hown hK.1 hP 0 rfl rfl 0 (by decide) hfl10 (fun _ h9 => h9) rfl dX3_override_40 ?_
          refine lv_iload_n hx hb dX3_override_43 rfl (lv_at hl 1 rfl) ?_
          obtain ⟨v9, h10, hf⟩ := kBind hf
          refine kgoR (krunV (wc := (wX1 cI a1 a2 R)) (As := [.int x1]) (rest := []) (ci := 1) hx hb hml hown hts hK (kX1_isOnStep l D cI a1 a2 R x1 v9 h10) gX3_override_X1_isOnStep rfl rfl rfl hdX1_isOnStep ⟨Nat.le_of_ble_eq_true rfl, Nat.le_of_ble_eq_true rfl⟩ (hP.sub [1, 2] rfl) (hD.sub [1, 2] (by decide) rfl) rfl rfl rfl rfl hl.1 rfl (Nat.le_of_ble_eq_true rfl) dX3_override_44 ⟨Nat.zero_le _, Nat.zero_le _⟩) hP hD hS hA [1, 2] rfl (fun H locs hP hS => ?_)
          refine kif_eqb (tgt := 53) hx hb dX3_override_47 (by decide) (fun c11 => ?_) (fun c11 => ?_)
          · have hf := kIfF c11 hf
            refine lv_aload_n hx hb dX3_override_53 rfl (lv_at hl 0 rfl) ?_
            refine va_get (D := D) (ci := 3) (v := .ref a1) (C := RX3) (T := TX3) (N := 4) hx hb hts hinX3 hown hK.1 hP 0 rfl rfl 0 (by decide) hfl10 (fun _ h9 => h9) rfl dX3_override_54 ?_
            obtain ⟨v12, h13, hf⟩ := kBind hf
            refine kgoR (krunV (wc := (wX1 cI a1 a2 R)) (As := []) (rest := []) (ci := 1) hx hb hml hown hts hK (kX1_noteCount l D cI a1 a2 R v12 h13) gX3_override_X1_noteCount rfl rfl rfl hdX1_noteCount ⟨Nat.le_of_ble_eq_true rfl, Nat.le_of_ble_eq_true rfl⟩ (hP.sub [1, 2] rfl) (hD.sub [1, 2] (by decide) rfl) rfl rfl rfl rfl hl.1 rfl (Nat.le_of_ble_eq_true rfl) dX3_override_57 ⟨Nat.zero_le _, Nat.zero_le _⟩) hP hD hS hA [1, 2] rfl (fun H locs hP hS => ?_)
            refine lv_bipush (v := (10 : Int32)) hx hb dX3_override_60 (by decide) ?_
            refine lv_icmp_lt (tgt := 68) hx hb dX3_override_62 (by decide) (fun c14 => ?_) (fun c14 => ?_)
            · have hf := kIfT c14 hf
              refine lv_aload_n hx hb dX3_override_68 rfl (lv_at hl 0 rfl) ?_
              refine va_get (D := D) (ci := 3) (v := .ref a5) (C := RX3) (T := TX3) (N := 4) hx hb hts hinX3 hown hK.1 hP 0 rfl rfl 2 (by decide) hfl22 (fun _ h9 => h9) rfl dX3_override_69 ?_
              refine lv_aload_n hx hb dX3_override_72 rfl (lv_at hl 0 rfl) ?_
              refine va_get (D := D) (ci := 3) (v := .ref a1) (C := RX3) (T := TX3) (N := 4) hx hb hts hinX3 hown hK.1 hP 0 rfl rfl 0 (by decide) hfl10 (fun _ h9 => h9) rfl dX3_override_73 ?_
              obtain ⟨v15, h16, hf⟩ := kBind hf
              refine kgoJ (wr := [(a0, .inr (3, [.ref a1, .ref a3, .ref a5, .ref a7])), (a3, .inr (1, [.ref a4])), (a4, .inl (cI, 132, .inl R2)), (a7, .inr (2, [.ref a8, .int LN, .int PS, .ref a9, .ref a10, .ref a11, .int CM])), (a8, .inl (cI, 80, .inl TB)), (a9, .inl (cI, 20, .inl TC)), (a10, .inl (cI, 20, .inl TW)), (a11, .inl (cI, 20, .inl TG))]) (w2 := (wX3 cI a0 a1 a2 a3 a4 a5 a6 a7 a8 a9 a10 a11 R R2 v15.1 v15.2.1 v15.2.2 TB LN PS TC TW TG CM)) (krunV (wc := (wX0_X1 cI a5 a6 a1 a2 HR HS HN R)) (As := [.ref a1]) (rest := []) (ci := 0) hx hb hml hown hts hK (kX0_keep l D cI a5 a6 a1 a2 HR HS HN R v15 h16) gX3_override_X0_keep rfl rfl rfl hdX0_keep ⟨Nat.le_of_ble_eq_true rfl, Nat.le_of_ble_eq_true rfl⟩ (hP.sub [5, 6, 1, 2] rfl) (hD.sub [5, 6, 1, 2] (by decide) rfl) rfl rfl rfl rfl hl.1 rfl (Nat.le_of_ble_eq_true rfl) dX3_override_76 ⟨Nat.zero_le _, Nat.zero_le _⟩) hP hD hS hA [5, 6, 1, 2] [0, 3, 4, 7, 8, 9, 10, 11] [0, 10, 11, 1, 2, 8, 9, 3, 4, 5, 6, 7] rfl rfl (by decide) (by decide) (by decide) rfl (fun H locs hP hD hS => ?_)
              refine lv_aload_n hx hb dX3_override_79 rfl (lv_at hl 0 rfl) ?_
              refine va_get (D := D) (ci := 3) (v := .ref a1) (C := RX3) (T := TX3) (N := 4) hx hb hts hinX3 hown hK.1 hP 0 rfl rfl 0 (by decide) hfl10 (fun _ h9 => h9) rfl dX3_override_80 ?_
              refine lv_iload_n hx hb dX3_override_83 rfl (lv_at hl 1 rfl) ?_
              obtain ⟨v17, h18, hf⟩ := kBind hf
              refine kgoJ (wr := [(a0, .inr (3, [.ref a1, .ref a3, .ref a5, .ref a7])), (a3, .inr (1, [.ref a4])), (a4, .inl (cI, 132, .inl R2)), (a5, .inr (0, [.ref a6, .int v15.2.1, .int v15.2.2])), (a6, .inl (cI, 660, .inl v15.1)), (a7, .inr (2, [.ref a8, .int LN, .int PS, .ref a9, .ref a10, .ref a11, .int CM])), (a8, .inl (cI, 80, .inl TB)), (a9, .inl (cI, 20, .inl TC)), (a10, .inl (cI, 20, .inl TW)), (a11, .inl (cI, 20, .inl TG))]) (w2 := (wX3 cI a0 a1 a2 a3 a4 a5 a6 a7 a8 a9 a10 a11 v17 R2 v15.1 v15.2.1 v15.2.2 TB LN PS TC TW TG CM)) (krunV (wc := (wX1 cI a1 a2 R)) (As := [.int x1]) (rest := []) (ci := 1) hx hb hml hown hts hK (kX1_endStep l D cI a1 a2 R x1 v17 h18) gX3_override_X1_endStep rfl rfl rfl hdX1_endStep ⟨Nat.le_of_ble_eq_true rfl, Nat.le_of_ble_eq_true rfl⟩ (hP.sub [1, 2] rfl) (hD.sub [1, 2] (by decide) rfl) rfl rfl rfl rfl hl.1 rfl (Nat.le_of_ble_eq_true rfl) dX3_override_84 ⟨Nat.zero_le _, Nat.zero_le _⟩) hP hD hS hA [1, 2] [0, 3, 4, 5, 6, 7, 8, 9, 10, 11] [0, 10, 11, 1, 2, 3, 4, 5, 6, 7, 8, 9] rfl rfl (by decide) (by decide) (by decide) rfl (fun H locs hP hD hS => ?_)
              refine lv_aload_n hx hb dX3_override_87 rfl (lv_at hl 0 rfl) ?_
              refine va_get (D := D) (ci := 3) (v := .ref a1) (C := RX3) (T := TX3) (N := 4) hx hb hts hinX3 hown hK.1 hP 0 rfl rfl 0 (by decide) hfl10 (fun _ h9 => h9) rfl dX3_override_88 ?_
              obtain ⟨v19, h20, hf⟩ := kBind hf
              refine kgoR (krunV (wc := (wX1 cI a1 a2 v17)) (As := []) (rest := []) (ci := 1) hx hb hml hown hts hK (kX1_conflictSet l D cI fu a1 a2 v17 v19 h20) gX3_override_X1_conflictSet rfl rfl rfl hdX1_conflictSet ⟨Nat.le_of_ble_eq_true rfl, Nat.le_of_ble_eq_true rfl⟩ (hP.sub [1, 2] rfl) (hD.sub [1, 2] (by decide) rfl) rfl rfl rfl rfl hl.1 rfl (Nat.le_of_ble_eq_true rfl) dX3_override_91 ⟨Nat.zero_le _, Nat.zero_le _⟩) hP hD hS hA [1, 2] rfl (fun H locs hP hS => ?_)
              refine lv_istore_n (lv' := [(3, .int v19), (0, .ref a0), (1, .int x1), (2, .int x2)]) hx hb dX3_override_94 rfl hl (by decide) rfl (fun ls hl => ?_)
              refine lv_aload_n hx hb dX3_override_95 rfl (lv_at hl 1 rfl) ?_
              refine va_get (D := D) (ci := 3) (v := .ref a1) (C := RX3) (T := TX3) (N := 4) hx hb hts hinX3 hown hK.1 hP 0 rfl rfl 0 (by decide) hfl10 (fun _ h9 => h9) rfl dX3_override_96 ?_
              refine lv_iload_n hx hb dX3_override_99 rfl (lv_at hl 2 rfl) ?_
              refine lv_iload_n hx hb dX3_override_100 rfl (lv_at hl 3 rfl) ?_
              refine lv_iload_n hx hb dX3_override_101 rfl (lv_at hl 0 rfl) ?_
              obtain ⟨v21, h22, hf⟩ := kBind hf
              refine kgoJ (wr := [(a0, .inr (3, [.ref a1, .ref a3, .ref a5, .ref a7])), (a3, .inr (1, [.ref a4])), (a4, .inl (cI, 132, .inl R2)), (a5, .inr (0, [.ref a6, .int v15.2.1, .int v15.2.2])), (a6, .inl (cI, 660, .inl v15.1)), (a7, .inr (2, [.ref a8, .int LN, .int PS, .ref a9, .ref a10, .ref a11, .int CM])), (a8, .inl (cI, 80, .inl TB)), (a9, .inl (cI, 20, .inl TC)), (a10, .inl (cI, 20, .inl TW)), (a11, .inl (cI, 20, .inl TG))]) (w2 := (wX3 cI a0 a1 a2 a3 a4 a5 a6 a7 a8 a9 a10 a11 v21 R2 v15.1 v15.2.1 v15.2.2 TB LN PS TC TW TG CM)) (krunV (wc := (wX1 cI a1 a2 v17)) (As := [.int x1, .int x2, .int v19]) (rest := []) (ci := 1) hx hb hml hown hts hK (kX1_putNote l D cI a1 a2 v17 x1 x2 v19 v21 h22) gX3_override_X1_putNote rfl rfl rfl hdX1_putNote ⟨Nat.le_of_ble_eq_true rfl, Nat.le_of_ble_eq_true rfl⟩ (hP.sub [1, 2] rfl) (hD.sub [1, 2] (by decide) rfl) rfl rfl rfl rfl hl.1 rfl (Nat.le_of_ble_eq_true rfl) dX3_override_102 ⟨Nat.zero_le _, Nat.zero_le _⟩) hP hD hS hA [1, 2] [0, 3, 4, 5, 6, 7, 8, 9, 10, 11] [0, 10, 11, 1, 2, 3, 4, 5, 6, 7, 8, 9] rfl rfl (by decide) (by decide) (by decide) rfl (fun H locs hP hD hS => ?_)
              refine lv_iload_n hx hb dX3_override_105 rfl (lv_at hl 0 rfl) ?_
              have he := Option.some.inj hf
              subst he
              exact kreti hx hb hr hlk hP hD hS dX3_override_106
            · have hf := kIfF c14 hf
              refine lv_bipush (v := (-104 : Int32)) hx hb dX3_override_65 (by decide) ?_
              have he := Option.some.inj hf
              subst he
              exact kreti hx hb hr hlk hP hD hS dX3_override_67
          · have hf := kIfT c11 hf
            refine lv_bipush (v := (-103 : Int32)) hx hb dX3_override_50 (by decide) ?_
            have he := Option.some.inj hf
            subst he
            exact kreti hx hb hr hlk hP hD hS dX3_override_52
      · have hf := kIfF c5 hf
        refine lv_bipush (v := (-102 : Int32)) hx hb dX3_override_25 (by decide) ?_
        have he := Option.some.inj hf
        subst he
        exact kreti hx hb hr hlk hP hD hS dX3_override_27
  · have hf := kIfF c3 hf
    refine lv_bipush (v := (-101 : Int32)) hx hb dX3_override_11 (by decide) ?_
    have he := Option.some.inj hf
    subst he
    exact kreti hx hb hr hlk hP hD hS dX3_override_13
set_option maxHeartbeats 4000000 in
set_option maxRecDepth 100000 in
theorem kX3_removeArc (l : Launch) (D : va_G) (cI : ClassId) (a0 a1 a2 a3 a4 a5 a6 a7 a8 a9 a10 a11 : Nat) (R : (Nat → Int32)) (R2 : (Nat → Int32)) (HR : (Nat → Int32)) (HS : Int32) (HN : Int32) (TB : (Nat → Int32)) (LN : Int32) (PS : Int32) (TC : (Nat → Int32)) (TW : (Nat → Int32)) (TG : (Nat → Int32)) (CM : Int32) (x1 : Int32) (x2 : Int32) (o : Int32 × (Nat → Int32) × (Nat → Int32) × Int32 × Int32) (hf : fX3_removeArc R HR HS HN x1 x2 = some o) : Ct l yX3_removeArc wsX3_removeArc { frames := 3, cells := 0, slots := 0, locals := 61 } D cI [.ref a0, .int x1, .int x2] (wX3 cI a0 a1 a2 a3 a4 a5 a6 a7 a8 a9 a10 a11 R R2 HR HS HN TB LN PS TC TW TG CM) (wX3 cI a0 a1 a2 a3 a4 a5 a6 a7 a8 a9 a10 a11 o.2.1 R2 o.2.2.1 o.2.2.2.1 o.2.2.2.2 TB LN PS TC TW TG CM) (some (.int o.1)) := by
  refine Ct.of (cc := cX3_removeArc) (maxL := 4) (ret := (some .int)) (by decide) rfl (Nat.le_of_ble_eq_true rfl) ?_
  intro p e s m args below meth c A F hP hD hS ls hl
  obtain ⟨hx, hb, hml, hr, hown, hts, hlk, hK, hA⟩ := F
  have hown : s.vm.findClass RX3 = some m.cls := hown
  have hl : lv_has ls 4 [(0, .ref a0), (1, .int x1), (2, .int x2)] := hl
  have hinX3 : ∀ w ∈ wsX30, w ∈ wsX3_removeArc := by decide +kernel
  have hfl10 := hts (.fieldLink RX3 10 "CraneGuard" "site" "LCraneGuard$Site;") (by decide +kernel)
  have hfl22 := hts (.fieldLink RX3 22 "CraneGuard" "history" "LCraneGuard$History;") (by decide +kernel)
  unfold fX3_removeArc at hf
  refine lv_aload_n hx hb dX3_removeArc_0 rfl (lv_at hl 0 rfl) ?_
  refine va_get (D := D) (ci := 3) (v := .ref a1) (C := RX3) (T := TX3) (N := 4) hx hb hts hinX3 hown hK.1 hP 0 rfl rfl 0 (by decide) hfl10 (fun _ h9 => h9) rfl dX3_removeArc_1 ?_
  refine lv_iload_n hx hb dX3_removeArc_4 rfl (lv_at hl 1 rfl) ?_
  obtain ⟨v1, h2, hf⟩ := kBind hf
  refine kgoR (krunV (wc := (wX1 cI a1 a2 R)) (As := [.int x1]) (rest := []) (ci := 1) hx hb hml hown hts hK (kX1_hasCrane l D cI a1 a2 R x1 v1 h2) gX3_removeArc_X1_hasCrane rfl rfl rfl hdX1_hasCrane ⟨Nat.le_of_ble_eq_true rfl, Nat.le_of_ble_eq_true rfl⟩ (hP.sub [1, 2] rfl) (hD.sub [1, 2] (by decide) rfl) rfl rfl rfl rfl hl.1 rfl (Nat.le_of_ble_eq_true rfl) dX3_removeArc_5 ⟨Nat.zero_le _, Nat.zero_le _⟩) hP hD hS hA [1, 2] rfl (fun H locs hP hS => ?_)
  refine kif_eqb (tgt := 18) hx hb dX3_removeArc_8 (by decide) (fun c3 => ?_) (fun c3 => ?_)
  · have hf := kIfF c3 hf
    refine lv_bipush (v := (-101 : Int32)) hx hb dX3_removeArc_18 (by decide) ?_
    have he := Option.some.inj hf
    subst he
    exact kreti hx hb hr hlk hP hD hS dX3_removeArc_20
  · have hf := kIfT c3 hf
    refine lv_iload_n hx hb dX3_removeArc_11 rfl (lv_at hl 2 rfl) ?_
    obtain ⟨v4, h5, hf⟩ := kBind hf
    refine kgoR (krunS (wc := ([] : va_W)) (As := [.int x2]) (rest := []) hx hb hml hown hts hK (kX3_isZone l D cI x2 v4 h5) gX3_removeArc_X3_isZone rfl rfl rfl hdX3_isZone ⟨Nat.le_of_ble_eq_true rfl, Nat.le_of_ble_eq_true rfl⟩ k_P0 (k_D0 A) rfl hl.1 rfl (Nat.le_of_ble_eq_true rfl) dX3_removeArc_12 ⟨Nat.zero_le _, Nat.zero_le _⟩) hP hD hS hA [] rfl (fun H locs hP hS => ?_)
    refine kif_neb (tgt := 21) hx hb dX3_removeArc_15 (by decide) (fun c6 => ?_) (fun c6 => ?_)
    · have hf := kIfT c6 hf
      refine lv_aload_n hx hb dX3_removeArc_21 rfl (lv_at hl 0 rfl) ?_
      refine va_get (D := D) (ci := 3) (v := .ref a5) (C := RX3) (T := TX3) (N := 4) hx hb hts hinX3 hown hK.1 hP 0 rfl rfl 2 (by decide) hfl22 (fun _ h9 => h9) rfl dX3_removeArc_22 ?_
      refine lv_aload_n hx hb dX3_removeArc_25 rfl (lv_at hl 0 rfl) ?_
      refine va_get (D := D) (ci := 3) (v := .ref a1) (C := RX3) (T := TX3) (N := 4) hx hb hts hinX3 hown hK.1 hP 0 rfl rfl 0 (by decide) hfl10 (fun _ h9 => h9) rfl dX3_removeArc_26 ?_
      obtain ⟨v7, h8, hf⟩ := kBind hf
      refine kgoJ (wr := [(a0, .inr (3, [.ref a1, .ref a3, .ref a5, .ref a7])), (a3, .inr (1, [.ref a4])), (a4, .inl (cI, 132, .inl R2)), (a7, .inr (2, [.ref a8, .int LN, .int PS, .ref a9, .ref a10, .ref a11, .int CM])), (a8, .inl (cI, 80, .inl TB)), (a9, .inl (cI, 20, .inl TC)), (a10, .inl (cI, 20, .inl TW)), (a11, .inl (cI, 20, .inl TG))]) (w2 := (wX3 cI a0 a1 a2 a3 a4 a5 a6 a7 a8 a9 a10 a11 R R2 v7.1 v7.2.1 v7.2.2 TB LN PS TC TW TG CM)) (krunV (wc := (wX0_X1 cI a5 a6 a1 a2 HR HS HN R)) (As := [.ref a1]) (rest := []) (ci := 0) hx hb hml hown hts hK (kX0_keep l D cI a5 a6 a1 a2 HR HS HN R v7 h8) gX3_removeArc_X0_keep rfl rfl rfl hdX0_keep ⟨Nat.le_of_ble_eq_true rfl, Nat.le_of_ble_eq_true rfl⟩ (hP.sub [5, 6, 1, 2] rfl) (hD.sub [5, 6, 1, 2] (by decide) rfl) rfl rfl rfl rfl hl.1 rfl (Nat.le_of_ble_eq_true rfl) dX3_removeArc_29 ⟨Nat.zero_le _, Nat.zero_le _⟩) hP hD hS hA [5, 6, 1, 2] [0, 3, 4, 7, 8, 9, 10, 11] [0, 10, 11, 1, 2, 8, 9, 3, 4, 5, 6, 7] rfl rfl (by decide) (by decide) (by decide) rfl (fun H locs hP hD hS => ?_)
      refine lv_aload_n hx hb dX3_removeArc_32 rfl (lv_at hl 0 rfl) ?_
      refine va_get (D := D) (ci := 3) (v := .ref a1) (C := RX3) (T := TX3) (N := 4) hx hb hts hinX3 hown hK.1 hP 0 rfl rfl 0 (by decide) hfl10 (fun _ h9 => h9) rfl dX3_removeArc_33 ?_
      refine lv_iload_n hx hb dX3_removeArc_36 rfl (lv_at hl 1 rfl) ?_
      refine lv_iload_n hx hb dX3_removeArc_37 rfl (lv_at hl 2 rfl) ?_
      obtain ⟨v9, h10, hf⟩ := kBind hf
      refine kgoR (krunV (wc := (wX1 cI a1 a2 R)) (As := [.int x1, .int x2]) (rest := []) (ci := 1) hx hb hml hown hts hK (kX1_hasArc l D cI a1 a2 R x1 x2 v9 h10) gX3_removeArc_X1_hasArc rfl rfl rfl hdX1_hasArc ⟨Nat.le_of_ble_eq_true rfl, Nat.le_of_ble_eq_true rfl⟩ (hP.sub [1, 2] rfl) (hD.sub [1, 2] (by decide) rfl) rfl rfl rfl rfl hl.1 rfl (Nat.le_of_ble_eq_true rfl) dX3_removeArc_38 ⟨Nat.zero_le _, Nat.zero_le _⟩) hP hD hS hA [1, 2] rfl (fun H locs hP hS => ?_)
      refine lv_istore_n (lv' := [(3, .int (bI v9)), (0, .ref a0), (1, .int x1), (2, .int x2)]) hx hb dX3_removeArc_41 rfl hl (by decide) rfl (fun ls hl => ?_)
      refine lv_aload_n hx hb dX3_removeArc_42 rfl (lv_at hl 1 rfl) ?_
      refine va_get (D := D) (ci := 3) (v := .ref a1) (C := RX3) (T := TX3) (N := 4) hx hb hts hinX3 hown hK.1 hP 0 rfl rfl 0 (by decide) hfl10 (fun _ h9 => h9) rfl dX3_removeArc_43 ?_
      refine lv_iload_n hx hb dX3_removeArc_46 rfl (lv_at hl 2 rfl) ?_
      refine lv_iload_n hx hb dX3_removeArc_47 rfl (lv_at hl 3 rfl) ?_
      refine lv_bipush (v := (-100 : Int32)) hx hb dX3_removeArc_48 (by decide) ?_
      refine lv_bipush (v := (-100 : Int32)) hx hb dX3_removeArc_50 (by decide) ?_
      obtain ⟨v11, h12, hf⟩ := kBind hf
      refine kgoJ (wr := [(a0, .inr (3, [.ref a1, .ref a3, .ref a5, .ref a7])), (a3, .inr (1, [.ref a4])), (a4, .inl (cI, 132, .inl R2)), (a5, .inr (0, [.ref a6, .int v7.2.1, .int v7.2.2])), (a6, .inl (cI, 660, .inl v7.1)), (a7, .inr (2, [.ref a8, .int LN, .int PS, .ref a9, .ref a10, .ref a11, .int CM])), (a8, .inl (cI, 80, .inl TB)), (a9, .inl (cI, 20, .inl TC)), (a10, .inl (cI, 20, .inl TW)), (a11, .inl (cI, 20, .inl TG))]) (w2 := (wX3 cI a0 a1 a2 a3 a4 a5 a6 a7 a8 a9 a10 a11 v11 R2 v7.1 v7.2.1 v7.2.2 TB LN PS TC TW TG CM)) (krunV (wc := (wX1 cI a1 a2 R)) (As := [.int x1, .int x2, .int (-100 : Int32), .int (-100 : Int32)]) (rest := []) (ci := 1) hx hb hml hown hts hK (kX1_setLimits l D cI a1 a2 R x1 x2 (-100 : Int32) (-100 : Int32) v11 h12) gX3_removeArc_X1_setLimits rfl rfl rfl hdX1_setLimits ⟨Nat.le_of_ble_eq_true rfl, Nat.le_of_ble_eq_true rfl⟩ (hP.sub [1, 2] rfl) (hD.sub [1, 2] (by decide) rfl) rfl rfl rfl rfl hl.1 rfl (Nat.le_of_ble_eq_true rfl) dX3_removeArc_52 ⟨Nat.zero_le _, Nat.zero_le _⟩) hP hD hS hA [1, 2] [0, 3, 4, 5, 6, 7, 8, 9, 10, 11] [0, 10, 11, 1, 2, 3, 4, 5, 6, 7, 8, 9] rfl rfl (by decide) (by decide) (by decide) rfl (fun H locs hP hD hS => ?_)
      refine lv_iload_n hx hb dX3_removeArc_55 rfl (lv_at hl 0 rfl) ?_
      refine kif_eqb (tgt := 63) hx hb dX3_removeArc_56 (by decide) (fun c13 => ?_) (fun c13 => ?_)
      · have hf := kIfF c13 hf
        refine lv_iconst (v := (0 : Int32)) hx hb dX3_removeArc_63 (by decide) ?_
        have he := Option.some.inj hf
        subst he
        exact kreti hx hb hr hlk hP hD hS dX3_removeArc_64
      · have hf := kIfT c13 hf
        refine lv_iconst (v := (1 : Int32)) hx hb dX3_removeArc_59 (by decide) ?_
        refine lv_goto (tgt := 64) hx hb dX3_removeArc_60 (by decide) ?_
        have he := Option.some.inj hf
        subst he
        exact kreti hx hb hr hlk hP hD hS dX3_removeArc_64
    · have hf := kIfF c6 hf
      refine lv_bipush (v := (-101 : Int32)) hx hb dX3_removeArc_18 (by decide) ?_
      have he := Option.some.inj hf
      subst he
      exact kreti hx hb hr hlk hP hD hS dX3_removeArc_20
set_option maxHeartbeats 4000000 in
set_option maxRecDepth 100000 in
theorem kX3_wouldMakeConflict (l : Launch) (D : va_G) (cI : ClassId) (fu : Nat) (a0 a1 a2 a3 a4 a5 a6 a7 a8 a9 a10 a11 : Nat) (R : (Nat → Int32)) (R2 : (Nat → Int32)) (HR : (Nat → Int32)) (HS : Int32) (HN : Int32) (TB : (Nat → Int32)) (LN : Int32) (PS : Int32) (TC : (Nat → Int32)) (TW : (Nat → Int32)) (TG : (Nat → Int32)) (CM : Int32) (x1 : Int32) (x2 : Int32) (x3 : Int32) (x4 : Int32) (o : Bool × (Nat → Int32)) (hf : fX3_wouldMakeConflict fu R R2 x1 x2 x3 x4 = some o) : Ct l yX3_wouldMakeConflict wsX3_wouldMakeConflict { frames := 4, cells := 0, slots := 0, locals := 92 } D cI [.ref a0, .int x1, .int x2, .int x3, .int x4] (wX3 cI a0 a1 a2 a3 a4 a5 a6 a7 a8 a9 a10 a11 R R2 HR HS HN TB LN PS TC TW TG CM) (wX3 cI a0 a1 a2 a3 a4 a5 a6 a7 a8 a9 a10 a11 R o.2 HR HS HN TB LN PS TC TW TG CM) (some (.int (bI o.1))) := by
  refine Ct.of (cc := cX3_wouldMakeConflict) (maxL := 5) (ret := (some .boolean)) (by decide) rfl (Nat.le_of_ble_eq_true rfl) ?_
  intro p e s m args below meth c A F hP hD hS ls hl
  obtain ⟨hx, hb, hml, hr, hown, hts, hlk, hK, hA⟩ := F
  have hown : s.vm.findClass RX3 = some m.cls := hown
  have hl : lv_has ls 5 [(0, .ref a0), (1, .int x1), (2, .int x2), (3, .int x3), (4, .int x4)] := hl
  have hinX3 : ∀ w ∈ wsX30, w ∈ wsX3_wouldMakeConflict := by decide +kernel
  have hfl10 := hts (.fieldLink RX3 10 "CraneGuard" "site" "LCraneGuard$Site;") (by decide +kernel)
  have hfl16 := hts (.fieldLink RX3 16 "CraneGuard" "trial" "LCraneGuard$Site;") (by decide +kernel)
  unfold fX3_wouldMakeConflict at hf
  refine lv_aload_n hx hb dX3_wouldMakeConflict_0 rfl (lv_at hl 0 rfl) ?_
  refine va_get (D := D) (ci := 3) (v := .ref a3) (C := RX3) (T := TX3) (N := 4) hx hb hts hinX3 hown hK.1 hP 0 rfl rfl 1 (by decide) hfl16 (fun _ h9 => h9) rfl dX3_wouldMakeConflict_1 ?_
  refine lv_aload_n hx hb dX3_wouldMakeConflict_4 rfl (lv_at hl 0 rfl) ?_
  refine va_get (D := D) (ci := 3) (v := .ref a1) (C := RX3) (T := TX3) (N := 4) hx hb hts hinX3 hown hK.1 hP 0 rfl rfl 0 (by decide) hfl10 (fun _ h9 => h9) rfl dX3_wouldMakeConflict_5 ?_
  obtain ⟨v1, h2, hf⟩ := kBind hf
  refine kgoJ (wr := [(a0, .inr (3, [.ref a1, .ref a3, .ref a5, .ref a7])), (a5, .inr (0, [.ref a6, .int HS, .int HN])), (a6, .inl (cI, 660, .inl HR)), (a7, .inr (2, [.ref a8, .int LN, .int PS, .ref a9, .ref a10, .ref a11, .int CM])), (a8, .inl (cI, 80, .inl TB)), (a9, .inl (cI, 20, .inl TC)), (a10, .inl (cI, 20, .inl TW)), (a11, .inl (cI, 20, .inl TG))]) (w2 := (wX3 cI a0 a1 a2 a3 a4 a5 a6 a7 a8 a9 a10 a11 R v1 HR HS HN TB LN PS TC TW TG CM)) (krunV (wc := (wX1_X1 cI a3 a4 a1 a2 R2 R)) (As := [.ref a1]) (rest := []) (ci := 1) hx hb hml hown hts hK (kX1_copyFrom l D cI a3 a4 a1 a2 R2 R v1 h2) gX3_wouldMakeConflict_X1_copyFrom rfl rfl rfl hdX1_copyFrom ⟨Nat.le_of_ble_eq_true rfl, Nat.le_of_ble_eq_true rfl⟩ (hP.sub [3, 4, 1, 2] rfl) (hD.sub [3, 4, 1, 2] (by decide) rfl) rfl rfl rfl rfl hl.1 rfl (Nat.le_of_ble_eq_true rfl) dX3_wouldMakeConflict_8 ⟨Nat.zero_le _, Nat.zero_le _⟩) hP hD hS hA [3, 4, 1, 2] [0, 5, 6, 7, 8, 9, 10, 11] [0, 10, 11, 8, 9, 1, 2, 3, 4, 5, 6, 7] rfl rfl (by decide) (by decide) (by decide) rfl (fun H locs hP hD hS => ?_)
  refine lv_aload_n hx hb dX3_wouldMakeConflict_11 rfl (lv_at hl 0 rfl) ?_
  refine va_get (D := D) (ci := 3) (v := .ref a3) (C := RX3) (T := TX3) (N := 4) hx hb hts hinX3 hown hK.1 hP 0 rfl rfl 1 (by decide) hfl16 (fun _ h9 => h9) rfl dX3_wouldMakeConflict_12 ?_
  refine lv_iload_n hx hb dX3_wouldMakeConflict_15 rfl (lv_at hl 1 rfl) ?_
  refine lv_iload_n hx hb dX3_wouldMakeConflict_16 rfl (lv_at hl 2 rfl) ?_
  refine lv_iload_n hx hb dX3_wouldMakeConflict_17 rfl (lv_at hl 3 rfl) ?_
  refine lv_iload hx hb dX3_wouldMakeConflict_18 (lv_at hl 4 rfl) ?_
  obtain ⟨v3, h4, hf⟩ := kBind hf
  refine kgoJ (wr := [(a0, .inr (3, [.ref a1, .ref a3, .ref a5, .ref a7])), (a1, .inr (1, [.ref a2])), (a2, .inl (cI, 132, .inl R)), (a5, .inr (0, [.ref a6, .int HS, .int HN])), (a6, .inl (cI, 660, .inl HR)), (a7, .inr (2, [.ref a8, .int LN, .int PS, .ref a9, .ref a10, .ref a11, .int CM])), (a8, .inl (cI, 80, .inl TB)), (a9, .inl (cI, 20, .inl TC)), (a10, .inl (cI, 20, .inl TW)), (a11, .inl (cI, 20, .inl TG))]) (w2 := (wX3 cI a0 a1 a2 a3 a4 a5 a6 a7 a8 a9 a10 a11 R v3 HR HS HN TB LN PS TC TW TG CM)) (krunV (wc := (wX1 cI a3 a4 v1)) (As := [.int x1, .int x2, .int x3, .int x4]) (rest := []) (ci := 1) hx hb hml hown hts hK (kX1_setLimits l D cI a3 a4 v1 x1 x2 x3 x4 v3 h4) gX3_wouldMakeConflict_X1_setLimits rfl rfl rfl hdX1_setLimits ⟨Nat.le_of_ble_eq_true rfl, Nat.le_of_ble_eq_true rfl⟩ (hP.sub [3, 4] rfl) (hD.sub [3, 4] (by decide) rfl) rfl rfl rfl rfl hl.1 rfl (Nat.le_of_ble_eq_true rfl) dX3_wouldMakeConflict_20 ⟨Nat.zero_le _, Nat.zero_le _⟩) hP hD hS hA [3, 4] [0, 1, 2, 5, 6, 7, 8, 9, 10, 11] [0, 1, 2, 10, 11, 3, 4, 5, 6, 7, 8, 9] rfl rfl (by decide) (by decide) (by decide) rfl (fun H locs hP hD hS => ?_)
  refine lv_aload_n hx hb dX3_wouldMakeConflict_23 rfl (lv_at hl 0 rfl) ?_
  refine va_get (D := D) (ci := 3) (v := .ref a3) (C := RX3) (T := TX3) (N := 4) hx hb hts hinX3 hown hK.1 hP 0 rfl rfl 1 (by decide) hfl16 (fun _ h9 => h9) rfl dX3_wouldMakeConflict_24 ?_
  refine lv_iload_n hx hb dX3_wouldMakeConflict_27 rfl (lv_at hl 2 rfl) ?_
  obtain ⟨v5, h6, hf⟩ := kBind hf
  refine kgoR (krunV (wc := (wX1 cI a3 a4 v3)) (As := [.int x2]) (rest := []) (ci := 1) hx hb hml hown hts hK (kX1_isConflict l D cI fu a3 a4 v3 x2 v5 h6) gX3_wouldMakeConflict_X1_isConflict rfl rfl rfl hdX1_isConflict ⟨Nat.le_of_ble_eq_true rfl, Nat.le_of_ble_eq_true rfl⟩ (hP.sub [3, 4] rfl) (hD.sub [3, 4] (by decide) rfl) rfl rfl rfl rfl hl.1 rfl (Nat.le_of_ble_eq_true rfl) dX3_wouldMakeConflict_28 ⟨Nat.zero_le _, Nat.zero_le _⟩) hP hD hS hA [3, 4] rfl (fun H locs hP hS => ?_)
  refine kif_eqb (tgt := 49) hx hb dX3_wouldMakeConflict_31 (by decide) (fun c7 => ?_) (fun c7 => ?_)
  · have hf := kIfF c7 hf
    refine lv_iconst (v := (0 : Int32)) hx hb dX3_wouldMakeConflict_49 (by decide) ?_
    have he := Option.some.inj hf
    subst he
    exact kretz hx hb hr hlk hP hD hS dX3_wouldMakeConflict_50
  · have hf := kIfT c7 hf
    refine lv_aload_n hx hb dX3_wouldMakeConflict_34 rfl (lv_at hl 0 rfl) ?_
    refine va_get (D := D) (ci := 3) (v := .ref a1) (C := RX3) (T := TX3) (N := 4) hx hb hts hinX3 hown hK.1 hP 0 rfl rfl 0 (by decide) hfl10 (fun _ h9 => h9) rfl dX3_wouldMakeConflict_35 ?_
    refine lv_iload_n hx hb dX3_wouldMakeConflict_38 rfl (lv_at hl 2 rfl) ?_
    obtain ⟨v8, h9, hf⟩ := kBind hf
    refine kgoR (krunV (wc := (wX1 cI a1 a2 R)) (As := [.int x2]) (rest := []) (ci := 1) hx hb hml hown hts hK (kX1_isConflict l D cI fu a1 a2 R x2 v8 h9) gX3_wouldMakeConflict_X1_isConflict rfl rfl rfl hdX1_isConflict ⟨Nat.le_of_ble_eq_true rfl, Nat.le_of_ble_eq_true rfl⟩ (hP.sub [1, 2] rfl) (hD.sub [1, 2] (by decide) rfl) rfl rfl rfl rfl hl.1 rfl (Nat.le_of_ble_eq_true rfl) dX3_wouldMakeConflict_39 ⟨Nat.zero_le _, Nat.zero_le _⟩) hP hD hS hA [1, 2] rfl (fun H locs hP hS => ?_)
    refine kif_neb (tgt := 49) hx hb dX3_wouldMakeConflict_42 (by decide) (fun c10 => ?_) (fun c10 => ?_)
    · have hf := kIfT c10 hf
      refine lv_iconst (v := (0 : Int32)) hx hb dX3_wouldMakeConflict_49 (by decide) ?_
      have he := Option.some.inj hf
      subst he
      exact kretz hx hb hr hlk hP hD hS dX3_wouldMakeConflict_50
    · have hf := kIfF c10 hf
      refine lv_iconst (v := (1 : Int32)) hx hb dX3_wouldMakeConflict_45 (by decide) ?_
      refine lv_goto (tgt := 50) hx hb dX3_wouldMakeConflict_46 (by decide) ?_
      have he := Option.some.inj hf
      subst he
      exact kretz hx hb hr hlk hP hD hS dX3_wouldMakeConflict_50
