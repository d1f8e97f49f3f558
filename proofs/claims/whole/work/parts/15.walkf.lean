set_option maxHeartbeats 4000000 in
set_option maxRecDepth 100000 in
theorem kX3_setArc (l : Launch) (D : va_G) (cI : ClassId) (fu : Nat) (a0 a1 a2 a3 a4 a5 a6 a7 a8 a9 a10 a11 : Nat) (R : (Nat → Int32)) (R2 : (Nat → Int32)) (HR : (Nat → Int32)) (HS : Int32) (HN : Int32) (TB : (Nat → Int32)) (LN : Int32) (PS : Int32) (TC : (Nat → Int32)) (TW : (Nat → Int32)) (TG : (Nat → Int32)) (CM : Int32) (x1 : Int32) (x2 : Int32) (x3 : Int32) (x4 : Int32) (o : Int32 × (Nat → Int32) × (Nat → Int32) × (Nat → Int32) × Int32 × Int32) (hf : fX3_setArc fu R R2 HR HS HN x1 x2 x3 x4 = some o) : Ct l yX3_setArc wsX3_setArc { frames := 5, cells := 0, slots := 0, locals := 116 } D cI [.ref a0, .int x1, .int x2, .int x3, .int x4] (wX3 cI a0 a1 a2 a3 a4 a5 a6 a7 a8 a9 a10 a11 R R2 HR HS HN TB LN PS TC TW TG CM) (wX3 cI a0 a1 a2 a3 a4 a5 a6 a7 a8 a9 a10 a11 o.2.1 o.2.2.1 o.2.2.2.1 o.2.2.2.2.1 o.2.2.2.2.2 TB LN PS TC TW TG CM) (some (.int o.1)) := by
  refine Ct.of (cc := cX3_setArc) (maxL := 5) (ret := (some .int)) (by decide) rfl (Nat.le_of_ble_eq_true rfl) ?_
  intro p e s m args below meth c A F hP hD hS ls hl
  obtain ⟨hx, hb, hml, hr, hown, hts, hlk, hK, hA⟩ := F
  have hown : s.vm.findClass RX3 = some m.cls := hown
  have hl : lv_has ls 5 [(0, .ref a0), (1, .int x1), (2, .int x2), (3, .int x3), (4, .int x4)] := hl
  have hinX3 : ∀ w ∈ wsX30, w ∈ wsX3_setArc := by decide +kernel
  have hfl10 := hts (.fieldLink RX3 10 "CraneGuard" "site" "LCraneGuard$Site;") (by decide +kernel)
  have hfl22 := hts (.fieldLink RX3 22 "CraneGuard" "history" "LCraneGuard$History;") (by decide +kernel)
  unfold fX3_setArc at hf
  refine lv_aload_n hx hb dX3_setArc_0 rfl (lv_at hl 0 rfl) ?_
  refine va_get (D := D) (ci := 3) (v := .ref a1) (C := RX3) (T := TX3) (N := 4) hx hb hts hinX3 hown hK.1 hP 0 rfl rfl 0 (by decide) hfl10 (fun _ h9 => h9) rfl dX3_setArc_1 ?_
  refine lv_iload_n hx hb dX3_setArc_4 rfl (lv_at hl 1 rfl) ?_
  obtain ⟨v1, h2, hf⟩ := kBind hf
  refine kgoR (krunV (wc := (wX1 cI a1 a2 R)) (As := [.int x1]) (rest := []) (ci := 1) hx hb hml hown hts hK (kX1_hasCrane l D cI a1 a2 R x1 v1 h2) gX3_setArc_X1_hasCrane rfl rfl rfl hdX1_hasCrane ⟨Nat.le_of_ble_eq_true rfl, Nat.le_of_ble_eq_true rfl⟩ (hP.sub [1, 2] rfl) (hD.sub [1, 2] (by decide) rfl) rfl rfl rfl rfl hl.1 rfl (Nat.le_of_ble_eq_true rfl) dX3_setArc_5 ⟨Nat.zero_le _, Nat.zero_le _⟩) hP hD hS hA [1, 2] rfl (fun H locs hP hS => ?_)
  refine kif_eqb (tgt := 18) hx hb dX3_setArc_8 (by decide) (fun c3 => ?_) (fun c3 => ?_)
  · have hf := kIfF c3 hf
    refine lv_bipush (v := (-101 : Int32)) hx hb dX3_setArc_18 (by decide) ?_
    have he := Option.some.inj hf
    subst he
    exact kreti hx hb hr hlk hP hD hS dX3_setArc_20
  · have hf := kIfT c3 hf
    refine lv_iload_n hx hb dX3_setArc_11 rfl (lv_at hl 2 rfl) ?_
    obtain ⟨v4, h5, hf⟩ := kBind hf
    refine kgoR (krunS (wc := ([] : va_W)) (As := [.int x2]) (rest := []) hx hb hml hown hts hK (kX3_isZone l D cI x2 v4 h5) gX3_setArc_X3_isZone rfl rfl rfl hdX3_isZone ⟨Nat.le_of_ble_eq_true rfl, Nat.le_of_ble_eq_true rfl⟩ k_P0 (k_D0 A) rfl hl.1 rfl (Nat.le_of_ble_eq_true rfl) dX3_setArc_12 ⟨Nat.zero_le _, Nat.zero_le _⟩) hP hD hS hA [] rfl (fun H locs hP hS => ?_)
    refine kif_neb (tgt := 21) hx hb dX3_setArc_15 (by decide) (fun c6 => ?_) (fun c6 => ?_)
    · have hf := kIfT c6 hf
      refine lv_iload_n hx hb dX3_setArc_21 rfl (lv_at hl 3 rfl) ?_
      obtain ⟨v7, h8, hf⟩ := kBind hf
      refine kgoR (krunS (wc := ([] : va_W)) (As := [.int x3]) (rest := []) hx hb hml hown hts hK (kX3_isAngle l D cI x3 v7 h8) gX3_setArc_X3_isAngle rfl rfl rfl hdX3_isAngle ⟨Nat.le_of_ble_eq_true rfl, Nat.le_of_ble_eq_true rfl⟩ k_P0 (k_D0 A) rfl hl.1 rfl (Nat.le_of_ble_eq_true rfl) dX3_setArc_22 ⟨Nat.zero_le _, Nat.zero_le _⟩) hP hD hS hA [] rfl (fun H locs hP hS => ?_)
      refine kif_eqb (tgt := 36) hx hb dX3_setArc_25 (by decide) (fun c9 => ?_) (fun c9 => ?_)
      · have hf := kIfF c9 hf
        refine lv_bipush (v := (-102 : Int32)) hx hb dX3_setArc_36 (by decide) ?_
        have he := Option.some.inj hf
        subst he
        exact kreti hx hb hr hlk hP hD hS dX3_setArc_38
      · have hf := kIfT c9 hf
        refine lv_iload hx hb dX3_setArc_28 (lv_at hl 4 rfl) ?_
        obtain ⟨v10, h11, hf⟩ := kBind hf
        refine kgoR (krunS (wc := ([] : va_W)) (As := [.int x4]) (rest := []) hx hb hml hown hts hK (kX3_isAngle l D cI x4 v10 h11) gX3_setArc_X3_isAngle rfl rfl rfl hdX3_isAngle ⟨Nat.le_of_ble_eq_true rfl, Nat.le_of_ble_eq_true rfl⟩ k_P0 (k_D0 A) rfl hl.1 rfl (Nat.le_of_ble_eq_true rfl) dX3_setArc_30 ⟨Nat.zero_le _, Nat.zero_le _⟩) hP hD hS hA [] rfl (fun H locs hP hS => ?_)
        refine kif_neb (tgt := 39) hx hb dX3_setArc_33 (by decide) (fun c12 => ?_) (fun c12 => ?_)
        · have hf := kIfT c12 hf
          refine lv_aload_n hx hb dX3_setArc_39 rfl (lv_at hl 0 rfl) ?_
          refine va_get (D := D) (ci := 3) (v := .ref a1) (C := RX3) (T := TX3) (N := 4) hx hb hts hinX3 hown hK.1 hP 0 rfl rfl 0 (by decide) hfl10 (fun _ h9 => h9) rfl dX3_setArc_40 ?_
          refine lv_iload_n hx hb dX3_setArc_43 rfl (lv_at hl 1 rfl) ?_
          obtain ⟨v13, h14, hf⟩ := kBind hf
          refine kgoR (krunV (wc := (wX1 cI a1 a2 R)) (As := [.int x1]) (rest := []) (ci := 1) hx hb hml hown hts hK (kX1_isLeft l D cI a1 a2 R x1 v13 h14) gX3_setArc_X1_isLeft rfl rfl rfl hdX1_isLeft ⟨Nat.le_of_ble_eq_true rfl, Nat.le_of_ble_eq_true rfl⟩ (hP.sub [1, 2] rfl) (hD.sub [1, 2] (by decide) rfl) rfl rfl rfl rfl hl.1 rfl (Nat.le_of_ble_eq_true rfl) dX3_setArc_44 ⟨Nat.zero_le _, Nat.zero_le _⟩) hP hD hS hA [1, 2] rfl (fun H locs hP hS => ?_)
          refine kif_neb (tgt := 62) hx hb dX3_setArc_47 (by decide) (fun c15 => ?_) (fun c15 => ?_)
          · have hf := kIfT c15 hf
            refine lv_bipush (v := (-103 : Int32)) hx hb dX3_setArc_62 (by decide) ?_
            have he := Option.some.inj hf
            subst he
            exact kreti hx hb hr hlk hP hD hS dX3_setArc_64
          · have hf := kIfF c15 hf
            refine lv_aload_n hx hb dX3_setArc_50 rfl (lv_at hl 0 rfl) ?_
            refine lv_iload_n hx hb dX3_setArc_51 rfl (lv_at hl 1 rfl) ?_
            refine lv_iload_n hx hb dX3_setArc_52 rfl (lv_at hl 2 rfl) ?_
            refine lv_iload_n hx hb dX3_setArc_53 rfl (lv_at hl 3 rfl) ?_
            refine lv_iload hx hb dX3_setArc_54 (lv_at hl 4 rfl) ?_
            obtain ⟨v16, h17, hf⟩ := kBind hf
            refine kgoA (krunV (wc := (wX3 cI a0 a1 a2 a3 a4 a5 a6 a7 a8 a9 a10 a11 R R2 HR HS HN TB LN PS TC TW TG CM)) (As := [.int x1, .int x2, .int x3, .int x4]) (rest := []) (ci := 3) hx hb hml hown hts hK (kX3_wouldMakeConflict l D cI fu a0 a1 a2 a3 a4 a5 a6 a7 a8 a9 a10 a11 R R2 HR HS HN TB LN PS TC TW TG CM x1 x2 x3 x4 v16 h17) gX3_setArc_X3_wouldMakeConflict rfl rfl rfl hdX3_wouldMakeConflict ⟨Nat.le_of_ble_eq_true rfl, Nat.le_of_ble_eq_true rfl⟩ hP hD rfl rfl rfl rfl hl.1 rfl (Nat.le_of_ble_eq_true rfl) dX3_setArc_56 ⟨Nat.zero_le _, Nat.zero_le _⟩) hD hS hA (fun H locs hP hD hS => ?_)
            refine kif_eqb (tgt := 65) hx hb dX3_setArc_59 (by decide) (fun c18 => ?_) (fun c18 => ?_)
            · have hf := kIfF c18 hf
              refine lv_aload_n hx hb dX3_setArc_65 rfl (lv_at hl 0 rfl) ?_
              refine va_get (D := D) (ci := 3) (v := .ref a5) (C := RX3) (T := TX3) (N := 4) hx hb hts hinX3 hown hK.1 hP 0 rfl rfl 2 (by decide) hfl22 (fun _ h9 => h9) rfl dX3_setArc_66 ?_
              refine lv_aload_n hx hb dX3_setArc_69 rfl (lv_at hl 0 rfl) ?_
              refine va_get (D := D) (ci := 3) (v := .ref a1) (C := RX3) (T := TX3) (N := 4) hx hb hts hinX3 hown hK.1 hP 0 rfl rfl 0 (by decide) hfl10 (fun _ h9 => h9) rfl dX3_setArc_70 ?_
              obtain ⟨v19, h20, hf⟩ := kBind hf
              refine kgoJ (wr := [(a0, .inr (3, [.ref a1, .ref a3, .ref a5, .ref a7])), (a3, .inr (1, [.ref a4])), (a4, .inl (cI, 132, .inl v16.2)), (a7, .inr (2, [.ref a8, .int LN, .int PS, .ref a9, .ref a10, .ref a11, .int CM])), (a8, .inl (cI, 80, .inl TB)), (a9, .inl (cI, 20, .inl TC)), (a10, .inl (cI, 20, .inl TW)), (a11, .inl (cI, 20, .inl TG))]) (w2 := (wX3 cI a0 a1 a2 a3 a4 a5 a6 a7 a8 a9 a10 a11 R v16.2 v19.1 v19.2.1 v19.2.2 TB LN PS TC TW TG CM)) (krunV (wc := (wX0_X1 cI a5 a6 a1 a2 HR HS HN R)) (As := [.ref a1]) (rest := []) (ci := 0) hx hb hml hown hts hK (kX0_keep l D cI a5 a6 a1 a2 HR HS HN R v19 h20) gX3_setArc_X0_keep rfl rfl rfl hdX0_keep ⟨Nat.le_of_ble_eq_true rfl, Nat.le_of_ble_eq_true rfl⟩ (hP.sub [5, 6, 1, 2] rfl) (hD.sub [5, 6, 1, 2] (by decide) rfl) rfl rfl rfl rfl hl.1 rfl (Nat.le_of_ble_eq_true rfl) dX3_setArc_73 ⟨Nat.zero_le _, Nat.zero_le _⟩) hP hD hS hA [5, 6, 1, 2] [0, 3, 4, 7, 8, 9, 10, 11] [0, 10, 11, 1, 2, 8, 9, 3, 4, 5, 6, 7] rfl rfl (by decide) (by decide) (by decide) rfl (fun H locs hP hD hS => ?_)
              refine lv_aload_n hx hb dX3_setArc_76 rfl (lv_at hl 0 rfl) ?_
              refine va_get (D := D) (ci := 3) (v := .ref a1) (C := RX3) (T := TX3) (N := 4) hx hb hts hinX3 hown hK.1 hP 0 rfl rfl 0 (by decide) hfl10 (fun _ h9 => h9) rfl dX3_setArc_77 ?_
              refine lv_iload_n hx hb dX3_setArc_80 rfl (lv_at hl 1 rfl) ?_
              refine lv_iload_n hx hb dX3_setArc_81 rfl (lv_at hl 2 rfl) ?_
              refine lv_iload_n hx hb dX3_setArc_82 rfl (lv_at hl 3 rfl) ?_
              refine lv_iload hx hb dX3_setArc_83 (lv_at hl 4 rfl) ?_
              obtain ⟨v21, h22, hf⟩ := kBind hf
              refine kgoJ (wr := [(a0, .inr (3, [.ref a1, .ref a3, .ref a5, .ref a7])), (a3, .inr (1, [.ref a4])), (a4, .inl (cI, 132, .inl v16.2)), (a5, .inr (0, [.ref a6, .int v19.2.1, .int v19.2.2])), (a6, .inl (cI, 660, .inl v19.1)), (a7, .inr (2, [.ref a8, .int LN, .int PS, .ref a9, .ref a10, .ref a11, .int CM])), (a8, .inl (cI, 80, .inl TB)), (a9, .inl (cI, 20, .inl TC)), (a10, .inl (cI, 20, .inl TW)), (a11, .inl (cI, 20, .inl TG))]) (w2 := (wX3 cI a0 a1 a2 a3 a4 a5 a6 a7 a8 a9 a10 a11 v21 v16.2 v19.1 v19.2.1 v19.2.2 TB LN PS TC TW TG CM)) (krunV (wc := (wX1 cI a1 a2 R)) (As := [.int x1, .int x2, .int x3, .int x4]) (rest := []) (ci := 1) hx hb hml hown hts hK (kX1_setLimits l D cI a1 a2 R x1 x2 x3 x4 v21 h22) gX3_setArc_X1_setLimits rfl rfl rfl hdX1_setLimits ⟨Nat.le_of_ble_eq_true rfl, Nat.le_of_ble_eq_true rfl⟩ (hP.sub [1, 2] rfl) (hD.sub [1, 2] (by decide) rfl) rfl rfl rfl rfl hl.1 rfl (Nat.le_of_ble_eq_true rfl) dX3_setArc_85 ⟨Nat.zero_le _, Nat.zero_le _⟩) hP hD hS hA [1, 2] [0, 3, 4, 5, 6, 7, 8, 9, 10, 11] [0, 10, 11, 1, 2, 3, 4, 5, 6, 7, 8, 9] rfl rfl (by decide) (by decide) (by decide) rfl (fun H locs hP hD hS => ?_)
              refine lv_iload_n hx hb dX3_setArc_88 rfl (lv_at hl 3 rfl) ?_
              refine lv_iload hx hb dX3_setArc_89 (lv_at hl 4 rfl) ?_
              obtain ⟨v23, h24, hf⟩ := kBind hf
              refine kgoR (krunS (wc := ([] : va_W)) (As := [.int x3, .int x4]) (rest := []) hx hb hml hown hts hK (kX3_stepsClockwise l D cI x3 x4 v23 h24) gX3_setArc_X3_stepsClockwise rfl rfl rfl hdX3_stepsClockwise ⟨Nat.le_of_ble_eq_true rfl, Nat.le_of_ble_eq_true rfl⟩ k_P0 (k_D0 A) rfl hl.1 rfl (Nat.le_of_ble_eq_true rfl) dX3_setArc_91 ⟨Nat.zero_le _, Nat.zero_le _⟩) hP hD hS hA [] rfl (fun H locs hP hS => ?_)
              refine lv_iconst (v := (1 : Int32)) hx hb dX3_setArc_94 (by decide) ?_
              refine lv_iadd hx hb dX3_setArc_95 ?_
              obtain ⟨z25, hz25⟩ : ∃ z : Int32, z = v23 + (1 : Int32) := ⟨_, rfl⟩
              rw [← hz25] at hf
              rw [← hz25]
              have he := Option.some.inj hf
              subst he
              exact kreti hx hb hr hlk hP hD hS dX3_setArc_96
            · have hf := kIfT c18 hf
              refine lv_bipush (v := (-103 : Int32)) hx hb dX3_setArc_62 (by decide) ?_
              have he := Option.some.inj hf
              subst he
              exact kreti hx hb hr hlk hP hD hS dX3_setArc_64
        · have hf := kIfF c12 hf
          refine lv_bipush (v := (-102 : Int32)) hx hb dX3_setArc_36 (by decide) ?_
          have he := Option.some.inj hf
          subst he
          exact kreti hx hb hr hlk hP hD hS dX3_setArc_38
    · have hf := kIfF c6 hf
      refine lv_bipush (v := (-101 : Int32)) hx hb dX3_setArc_18 (by decide) ?_
      have he := Option.some.inj hf
      subst he
      exact kreti hx hb hr hlk hP hD hS dX3_setArc_20
set_option maxHeartbeats 4000000 in
set_option maxRecDepth 100000 in
theorem kX3_setPriority (l : Launch) (D : va_G) (cI : ClassId) (a0 a1 a2 a3 a4 a5 a6 a7 a8 a9 a10 a11 : Nat) (R : (Nat → Int32)) (R2 : (Nat → Int32)) (HR : (Nat → Int32)) (HS : Int32) (HN : Int32) (TB : (Nat → Int32)) (LN : Int32) (PS : Int32) (TC : (Nat → Int32)) (TW : (Nat → Int32)) (TG : (Nat → Int32)) (CM : Int32) (x1 : Int32) (x2 : Int32) (o : Int32 × (Nat → Int32) × (Nat → Int32) × Int32 × Int32) (hf : fX3_setPriority R HR HS HN x1 x2 = some o) : Ct l yX3_setPriority wsX3_setPriority { frames := 3, cells := 0, slots := 0, locals := 61 } D cI [.ref a0, .int x1, .int x2] (wX3 cI a0 a1 a2 a3 a4 a5 a6 a7 a8 a9 a10 a11 R R2 HR HS HN TB LN PS TC TW TG CM) (wX3 cI a0 a1 a2 a3 a4 a5 a6 a7 a8 a9 a10 a11 o.2.1 R2 o.2.2.1 o.2.2.2.1 o.2.2.2.2 TB LN PS TC TW TG CM) (some (.int o.1)) := by
  refine Ct.of (cc := cX3_setPriority) (maxL := 3) (ret := (some .int)) (by decide) rfl (Nat.le_of_ble_eq_true rfl) ?_
  intro p e s m args below meth c A F hP hD hS ls hl
  obtain ⟨hx, hb, hml, hr, hown, hts, hlk, hK, hA⟩ := F
  have hown : s.vm.findClass RX3 = some m.cls := hown
  have hl : lv_has ls 3 [(0, .ref a0), (1, .int x1), (2, .int x2)] := hl
  have hinX3 : ∀ w ∈ wsX30, w ∈ wsX3_setPriority := by decide +kernel
  have hfl10 := hts (.fieldLink RX3 10 "CraneGuard" "site" "LCraneGuard$Site;") (by decide +kernel)
  have hfl22 := hts (.fieldLink RX3 22 "CraneGuard" "history" "LCraneGuard$History;") (by decide +kernel)
  unfold fX3_setPriority at hf
  refine lv_aload_n hx hb dX3_setPriority_0 rfl (lv_at hl 0 rfl) ?_
  refine va_get (D := D) (ci := 3) (v := .ref a1) (C := RX3) (T := TX3) (N := 4) hx hb hts hinX3 hown hK.1 hP 0 rfl rfl 0 (by decide) hfl10 (fun _ h9 => h9) rfl dX3_setPriority_1 ?_
  refine lv_iload_n hx hb dX3_setPriority_4 rfl (lv_at hl 1 rfl) ?_
  obtain ⟨v1, h2, hf⟩ := kBind hf
  refine kgoR (krunV (wc := (wX1 cI a1 a2 R)) (As := [.int x1]) (rest := []) (ci := 1) hx hb hml hown hts hK (kX1_hasCrane l D cI a1 a2 R x1 v1 h2) gX3_setPriority_X1_hasCrane rfl rfl rfl hdX1_hasCrane ⟨Nat.le_of_ble_eq_true rfl, Nat.le_of_ble_eq_true rfl⟩ (hP.sub [1, 2] rfl) (hD.sub [1, 2] (by decide) rfl) rfl rfl rfl rfl hl.1 rfl (Nat.le_of_ble_eq_true rfl) dX3_setPriority_5 ⟨Nat.zero_le _, Nat.zero_le _⟩) hP hD hS hA [1, 2] rfl (fun H locs hP hS => ?_)
  refine kif_neb (tgt := 14) hx hb dX3_setPriority_8 (by decide) (fun c3 => ?_) (fun c3 => ?_)
  · have hf := kIfT c3 hf
    refine lv_iload_n hx hb dX3_setPriority_14 rfl (lv_at hl 2 rfl) ?_
    obtain ⟨v4, h5, hf⟩ := kBind hf
    refine kgoR (krunS (wc := ([] : va_W)) (As := [.int x2]) (rest := []) hx hb hml hown hts hK (kX3_isPriority l D cI x2 v4 h5) gX3_setPriority_X3_isPriority rfl rfl rfl hdX3_isPriority ⟨Nat.le_of_ble_eq_true rfl, Nat.le_of_ble_eq_true rfl⟩ k_P0 (k_D0 A) rfl hl.1 rfl (Nat.le_of_ble_eq_true rfl) dX3_setPriority_15 ⟨Nat.zero_le _, Nat.zero_le _⟩) hP hD hS hA [] rfl (fun H locs hP hS => ?_)
    refine kif_neb (tgt := 24) hx hb dX3_setPriority_18 (by decide) (fun c6 => ?_) (fun c6 => ?_)
    · have hf := kIfT c6 hf
      refine lv_aload_n hx hb dX3_setPriority_24 rfl (lv_at hl 0 rfl) ?_
      refine va_get (D := D) (ci := 3) (v := .ref a5) (C := RX3) (T := TX3) (N := 4) hx hb hts hinX3 hown hK.1 hP 0 rfl rfl 2 (by decide) hfl22 (fun _ h9 => h9) rfl dX3_setPriority_25 ?_
      refine lv_aload_n hx hb dX3_setPriority_28 rfl (lv_at hl 0 rfl) ?_
      refine va_get (D := D) (ci := 3) (v := .ref a1) (C := RX3) (T := TX3) (N := 4) hx hb hts hinX3 hown hK.1 hP 0 rfl rfl 0 (by decide) hfl10 (fun _ h9 => h9) rfl dX3_setPriority_29 ?_
      obtain ⟨v7, h8, hf⟩ := kBind hf
      refine kgoJ (wr := [(a0, .inr (3, [.ref a1, .ref a3, .ref a5, .ref a7])), (a3, .inr (1, [.ref a4])), (a4, .inl (cI, 132, .inl R2)), (a7, .inr (2, [.ref a8, .int LN, .int PS, .ref a9, .ref a10, .ref a11, .int CM])), (a8, .inl (cI, 80, .inl TB)), (a9, .inl (cI, 20, .inl TC)), (a10, .inl (cI, 20, .inl TW)), (a11, .inl (cI, 20, .inl TG))]) (w2 := (wX3 cI a0 a1 a2 a3 a4 a5 a6 a7 a8 a9 a10 a11 R R2 v7.1 v7.2.1 v7.2.2 TB LN PS TC TW TG CM)) (krunV (wc := (wX0_X1 cI a5 a6 a1 a2 HR HS HN R)) (As := [.ref a1]) (rest := []) (ci := 0) hx hb hml hown hts hK (kX0_keep l D cI a5 a6 a1 a2 HR HS HN R v7 h8) gX3_setPriority_X0_keep rfl rfl rfl hdX0_keep ⟨Nat.le_of_ble_eq_true rfl, Nat.le_of_ble_eq_true rfl⟩ (hP.sub [5, 6, 1, 2] rfl) (hD.sub [5, 6, 1, 2] (by decide) rfl) rfl rfl rfl rfl hl.1 rfl (Nat.le_of_ble_eq_true rfl) dX3_setPriority_32 ⟨Nat.zero_le _, Nat.zero_le _⟩) hP hD hS hA [5, 6, 1, 2] [0, 3, 4, 7, 8, 9, 10, 11] [0, 10, 11, 1, 2, 8, 9, 3, 4, 5, 6, 7] rfl rfl (by decide) (by decide) (by decide) rfl (fun H locs hP hD hS => ?_)
      refine lv_aload_n hx hb dX3_setPriority_35 rfl (lv_at hl 0 rfl) ?_
      refine va_get (D := D) (ci := 3) (v := .ref a1) (C := RX3) (T := TX3) (N := 4) hx hb hts hinX3 hown hK.1 hP 0 rfl rfl 0 (by decide) hfl10 (fun _ h9 => h9) rfl dX3_setPriority_36 ?_
      refine lv_iload_n hx hb dX3_setPriority_39 rfl (lv_at hl 1 rfl) ?_
      refine lv_iload_n hx hb dX3_setPriority_40 rfl (lv_at hl 2 rfl) ?_
      obtain ⟨v9, h10, hf⟩ := kBind hf
      refine kgoJ (wr := [(a0, .inr (3, [.ref a1, .ref a3, .ref a5, .ref a7])), (a3, .inr (1, [.ref a4])), (a4, .inl (cI, 132, .inl R2)), (a5, .inr (0, [.ref a6, .int v7.2.1, .int v7.2.2])), (a6, .inl (cI, 660, .inl v7.1)), (a7, .inr (2, [.ref a8, .int LN, .int PS, .ref a9, .ref a10, .ref a11, .int CM])), (a8, .inl (cI, 80, .inl TB)), (a9, .inl (cI, 20, .inl TC)), (a10, .inl (cI, 20, .inl TW)), (a11, .inl (cI, 20, .inl TG))]) (w2 := (wX3 cI a0 a1 a2 a3 a4 a5 a6 a7 a8 a9 a10 a11 v9.2 R2 v7.1 v7.2.1 v7.2.2 TB LN PS TC TW TG CM)) (krunV (wc := (wX1 cI a1 a2 R)) (As := [.int x1, .int x2]) (rest := []) (ci := 1) hx hb hml hown hts hK (kX1_changePriority l D cI a1 a2 R x1 x2 v9 h10) gX3_setPriority_X1_changePriority rfl rfl rfl hdX1_changePriority ⟨Nat.le_of_ble_eq_true rfl, Nat.le_of_ble_eq_true rfl⟩ (hP.sub [1, 2] rfl) (hD.sub [1, 2] (by decide) rfl) rfl rfl rfl rfl hl.1 rfl (Nat.le_of_ble_eq_true rfl) dX3_setPriority_41 ⟨Nat.zero_le _, Nat.zero_le _⟩) hP hD hS hA [1, 2] [0, 3, 4, 5, 6, 7, 8, 9, 10, 11] [0, 10, 11, 1, 2, 3, 4, 5, 6, 7, 8, 9] rfl rfl (by decide) (by decide) (by decide) rfl (fun H locs hP hD hS => ?_)
      have he := Option.some.inj hf
      subst he
      exact kreti hx hb hr hlk hP hD hS dX3_setPriority_44
    · have hf := kIfF c6 hf
      refine lv_bipush (v := (-102 : Int32)) hx hb dX3_setPriority_21 (by decide) ?_
      have he := Option.some.inj hf
      subst he
      exact kreti hx hb hr hlk hP hD hS dX3_setPriority_23
  · have hf := kIfF c3 hf
    refine lv_bipush (v := (-101 : Int32)) hx hb dX3_setPriority_11 (by decide) ?_
    have he := Option.some.inj hf
    subst he
    exact kreti hx hb hr hlk hP hD hS dX3_setPriority_13
set_option maxHeartbeats 4000000 in
set_option maxRecDepth 100000 in
theorem kX3_setWind (l : Launch) (D : va_G) (cI : ClassId) (a0 a1 a2 a3 a4 a5 a6 a7 a8 a9 a10 a11 : Nat) (R : (Nat → Int32)) (R2 : (Nat → Int32)) (HR : (Nat → Int32)) (HS : Int32) (HN : Int32) (TB : (Nat → Int32)) (LN : Int32) (PS : Int32) (TC : (Nat → Int32)) (TW : (Nat → Int32)) (TG : (Nat → Int32)) (CM : Int32) (x1 : Int32) (o : Int32 × (Nat → Int32) × (Nat → Int32) × Int32 × Int32) (hf : fX3_setWind R HR HS HN x1 = some o) : Ct l yX3_setWind wsX3_setWind { frames := 3, cells := 0, slots := 0, locals := 61 } D cI [.ref a0, .int x1] (wX3 cI a0 a1 a2 a3 a4 a5 a6 a7 a8 a9 a10 a11 R R2 HR HS HN TB LN PS TC TW TG CM) (wX3 cI a0 a1 a2 a3 a4 a5 a6 a7 a8 a9 a10 a11 o.2.1 R2 o.2.2.1 o.2.2.2.1 o.2.2.2.2 TB LN PS TC TW TG CM) (some (.int o.1)) := by
  refine Ct.of (cc := cX3_setWind) (maxL := 2) (ret := (some .int)) (by decide) rfl (Nat.le_of_ble_eq_true rfl) ?_
  intro p e s m args below meth c A F hP hD hS ls hl
  obtain ⟨hx, hb, hml, hr, hown, hts, hlk, hK, hA⟩ := F
  have hown : s.vm.findClass RX3 = some m.cls := hown
  have hl : lv_has ls 2 [(0, .ref a0), (1, .int x1)] := hl
  have hinX3 : ∀ w ∈ wsX30, w ∈ wsX3_setWind := by decide +kernel
  have hfl10 := hts (.fieldLink RX3 10 "CraneGuard" "site" "LCraneGuard$Site;") (by decide +kernel)
  have hfl22 := hts (.fieldLink RX3 22 "CraneGuard" "history" "LCraneGuard$History;") (by decide +kernel)
  unfold fX3_setWind at hf
  refine lv_iload_n hx hb dX3_setWind_0 rfl (lv_at hl 1 rfl) ?_
  obtain ⟨v1, h2, hf⟩ := kBind hf
  refine kgoR (krunS (wc := ([] : va_W)) (As := [.int x1]) (rest := []) hx hb hml hown hts hK (kX3_isAngle l D cI x1 v1 h2) gX3_setWind_X3_isAngle rfl rfl rfl hdX3_isAngle ⟨Nat.le_of_ble_eq_true rfl, Nat.le_of_ble_eq_true rfl⟩ k_P0 (k_D0 A) rfl hl.1 rfl (Nat.le_of_ble_eq_true rfl) dX3_setWind_1 ⟨Nat.zero_le _, Nat.zero_le _⟩) hP hD hS hA [] rfl (fun H locs hP hS => ?_)
  refine kif_neb (tgt := 10) hx hb dX3_setWind_4 (by decide) (fun c3 => ?_) (fun c3 => ?_)
  · have hf := kIfT c3 hf
    refine lv_aload_n hx hb dX3_setWind_10 rfl (lv_at hl 0 rfl) ?_
    refine va_get (D := D) (ci := 3) (v := .ref a5) (C := RX3) (T := TX3) (N := 4) hx hb hts hinX3 hown hK.1 hP 0 rfl rfl 2 (by decide) hfl22 (fun _ h9 => h9) rfl dX3_setWind_11 ?_
    refine lv_aload_n hx hb dX3_setWind_14 rfl (lv_at hl 0 rfl) ?_
    refine va_get (D := D) (ci := 3) (v := .ref a1) (C := RX3) (T := TX3) (N := 4) hx hb hts hinX3 hown hK.1 hP 0 rfl rfl 0 (by decide) hfl10 (fun _ h9 => h9) rfl dX3_setWind_15 ?_
    obtain ⟨v4, h5, hf⟩ := kBind hf
    refine kgoJ (wr := [(a0, .inr (3, [.ref a1, .ref a3, .ref a5, .ref a7])), (a3, .inr (1, [.ref a4])), (a4, .inl (cI, 132, .inl R2)), (a7, .inr (2, [.ref a8, .int LN, .int PS, .ref a9, .ref a10, .ref a11, .int CM])), (a8, .inl (cI, 80, .inl TB)), (a9, .inl (cI, 20, .inl TC)), (a10, .inl (cI, 20, .inl TW)), (a11, .inl (cI, 20, .inl TG))]) (w2 := (wX3 cI a0 a1 a2 a3 a4 a5 a6 a7 a8 a9 a10 a11 R R2 v4.1 v4.2.1 v4.2.2 TB LN PS TC TW TG CM)) (krunV (wc := (wX0_X1 cI a5 a6 a1 a2 HR HS HN R)) (As := [.ref a1]) (rest := []) (ci := 0) hx hb hml hown hts hK (kX0_keep l D cI a5 a6 a1 a2 HR HS HN R v4 h5) gX3_setWind_X0_keep rfl rfl rfl hdX0_keep ⟨Nat.le_of_ble_eq_true rfl, Nat.le_of_ble_eq_true rfl⟩ (hP.sub [5, 6, 1, 2] rfl) (hD.sub [5, 6, 1, 2] (by decide) rfl) rfl rfl rfl rfl hl.1 rfl (Nat.le_of_ble_eq_true rfl) dX3_setWind_18 ⟨Nat.zero_le _, Nat.zero_le _⟩) hP hD hS hA [5, 6, 1, 2] [0, 3, 4, 7, 8, 9, 10, 11] [0, 10, 11, 1, 2, 8, 9, 3, 4, 5, 6, 7] rfl rfl (by decide) (by decide) (by decide) rfl (fun H locs hP hD hS => ?_)
    refine lv_aload_n hx hb dX3_setWind_21 rfl (lv_at hl 0 rfl) ?_
    refine va_get (D := D) (ci := 3) (v := .ref a1) (C := RX3) (T := TX3) (N := 4) hx hb hts hinX3 hown hK.1 hP 0 rfl rfl 0 (by decide) hfl10 (fun _ h9 => h9) rfl dX3_setWind_22 ?_
    refine lv_iload_n hx hb dX3_setWind_25 rfl (lv_at hl 1 rfl) ?_
    obtain ⟨v6, h7, hf⟩ := kBind hf
    refine kgoJ (wr := [(a0, .inr (3, [.ref a1, .ref a3, .ref a5, .ref a7])), (a3, .inr (1, [.ref a4])), (a4, .inl (cI, 132, .inl R2)), (a5, .inr (0, [.ref a6, .int v4.2.1, .int v4.2.2])), (a6, .inl (cI, 660, .inl v4.1)), (a7, .inr (2, [.ref a8, .int LN, .int PS, .ref a9, .ref a10, .ref a11, .int CM])), (a8, .inl (cI, 80, .inl TB)), (a9, .inl (cI, 20, .inl TC)), (a10, .inl (cI, 20, .inl TW)), (a11, .inl (cI, 20, .inl TG))]) (w2 := (wX3 cI a0 a1 a2 a3 a4 a5 a6 a7 a8 a9 a10 a11 v6.2 R2 v4.1 v4.2.1 v4.2.2 TB LN PS TC TW TG CM)) (krunV (wc := (wX1 cI a1 a2 R)) (As := [.int x1]) (rest := []) (ci := 1) hx hb hml hown hts hK (kX1_changeWind l D cI a1 a2 R x1 v6 h7) gX3_setWind_X1_changeWind rfl rfl rfl hdX1_changeWind ⟨Nat.le_of_ble_eq_true rfl, Nat.le_of_ble_eq_true rfl⟩ (hP.sub [1, 2] rfl) (hD.sub [1, 2] (by decide) rfl) rfl rfl rfl rfl hl.1 rfl (Nat.le_of_ble_eq_true rfl) dX3_setWind_26 ⟨Nat.zero_le _, Nat.zero_le _⟩) hP hD hS hA [1, 2] [0, 3, 4, 5, 6, 7, 8, 9, 10, 11] [0, 10, 11, 1, 2, 3, 4, 5, 6, 7, 8, 9] rfl rfl (by decide) (by decide) (by decide) rfl (fun H locs hP hD hS => ?_)
    have he := Option.some.inj hf
    subst he
    exact kreti hx hb hr hlk hP hD hS dX3_setWind_29
  · have hf := kIfF c3 hf
    refine lv_bipush (v := (-102 : Int32)) hx hb dX3_setWind_7 (by decide) ?_
    have he := Option.some.inj hf
    subst he
    exact kreti hx hb hr hlk hP hD hS dX3_setWind_9
set_option maxHeartbeats 4000000 in
set_option maxRecDepth 100000 in
theorem kX3_slew (l : Launch) (D : va_G) (cI : ClassId) (a0 a1 a2 a3 a4 a5 a6 a7 a8 a9 a10 a11 : Nat) (R : (Nat → Int32)) (R2 : (Nat → Int32)) (HR : (Nat → Int32)) (HS : Int32) (HN : Int32) (TB : (Nat → Int32)) (LN : Int32) (PS : Int32) (TC : (Nat → Int32)) (TW : (Nat → Int32)) (TG : (Nat → Int32)) (CM : Int32) (x1 : Int32) (x2 : Int32) (x3 : Int32) (o : Int32 × (Nat → Int32) × (Nat → Int32) × Int32 × Int32) (hf : fX3_slew R HR HS HN x1 x2 x3 = some o) : Ct l yX3_slew wsX3_slew { frames := 3, cells := 0, slots := 0, locals := 68 } D cI [.ref a0, .int x1, .int x2, .int x3] (wX3 cI a0 a1 a2 a3 a4 a5 a6 a7 a8 a9 a10 a11 R R2 HR HS HN TB LN PS TC TW TG CM) (wX3 cI a0 a1 a2 a3 a4 a5 a6 a7 a8 a9 a10 a11 o.2.1 R2 o.2.2.1 o.2.2.2.1 o.2.2.2.2 TB LN PS TC TW TG CM) (some (.int o.1)) := by
  refine Ct.of (cc := cX3_slew) (maxL := 4) (ret := (some .int)) (by decide) rfl (Nat.le_of_ble_eq_true rfl) ?_
  intro p e s m args below meth c A F hP hD hS ls hl
  obtain ⟨hx, hb, hml, hr, hown, hts, hlk, hK, hA⟩ := F
  have hown : s.vm.findClass RX3 = some m.cls := hown
  have hl : lv_has ls 4 [(0, .ref a0), (1, .int x1), (2, .int x2), (3, .int x3)] := hl
  have hinX3 : ∀ w ∈ wsX30, w ∈ wsX3_slew := by decide +kernel
  have hfl10 := hts (.fieldLink RX3 10 "CraneGuard" "site" "LCraneGuard$Site;") (by decide +kernel)
  have hfl22 := hts (.fieldLink RX3 22 "CraneGuard" "history" "LCraneGuard$History;") (by decide +kernel)
  unfold fX3_slew at hf
  refine lv_aload_n hx hb dX3_slew_0 rfl (lv_at hl 0 rfl) ?_
  refine va_get (D := D) (ci := 3) (v := .ref a1) (C := RX3) (T := TX3) (N := 4) hx hb hts hinX3 hown hK.1 hP 0 rfl rfl 0 (by decide) hfl10 (fun _ h9 => h9) rfl dX3_slew_1 ?_
  refine lv_iload_n hx hb dX3_slew_4 rfl (lv_at hl 1 rfl) ?_
  obtain ⟨v1, h2, hf⟩ := kBind hf
  refine kgoR (krunV (wc := (wX1 cI a1 a2 R)) (As := [.int x1]) (rest := []) (ci := 1) hx hb hml hown hts hK (kX1_hasCrane l D cI a1 a2 R x1 v1 h2) gX3_slew_X1_hasCrane rfl rfl rfl hdX1_hasCrane ⟨Nat.le_of_ble_eq_true rfl, Nat.le_of_ble_eq_true rfl⟩ (hP.sub [1, 2] rfl) (hD.sub [1, 2] (by decide) rfl) rfl rfl rfl rfl hl.1 rfl (Nat.le_of_ble_eq_true rfl) dX3_slew_5 ⟨Nat.zero_le _, Nat.zero_le _⟩) hP hD hS hA [1, 2] rfl (fun H locs hP hS => ?_)
  refine kif_neb (tgt := 14) hx hb dX3_slew_8 (by decide) (fun c3 => ?_) (fun c3 => ?_)
  · have hf := kIfT c3 hf
    refine lv_iload_n hx hb dX3_slew_14 rfl (lv_at hl 2 rfl) ?_
    obtain ⟨v4, h5, hf⟩ := kBind hf
    refine kgoR (krunS (wc := ([] : va_W)) (As := [.int x2]) (rest := []) hx hb hml hown hts hK (kX3_isAngle l D cI x2 v4 h5) gX3_slew_X3_isAngle rfl rfl rfl hdX3_isAngle ⟨Nat.le_of_ble_eq_true rfl, Nat.le_of_ble_eq_true rfl⟩ k_P0 (k_D0 A) rfl hl.1 rfl (Nat.le_of_ble_eq_true rfl) dX3_slew_15 ⟨Nat.zero_le _, Nat.zero_le _⟩) hP hD hS hA [] rfl (fun H locs hP hS => ?_)
    refine kif_eqb (tgt := 31) hx hb dX3_slew_18 (by decide) (fun c6 => ?_) (fun c6 => ?_)
    · have hf := kIfF c6 hf
      refine lv_bipush (v := (-102 : Int32)) hx hb dX3_slew_31 (by decide) ?_
      have he := Option.some.inj hf
      subst he
      exact kreti hx hb hr hlk hP hD hS dX3_slew_33
    · have hf := kIfT c6 hf
      refine lv_iload_n hx hb dX3_slew_21 rfl (lv_at hl 3 rfl) ?_
      refine lv_iconst (v := (-1 : Int32)) hx hb dX3_slew_22 (by decide) ?_
      refine lv_icmp_lt (tgt := 31) hx hb dX3_slew_23 (by decide) (fun c7 => ?_) (fun c7 => ?_)
      · have hf := kIfT c7 hf
        refine lv_bipush (v := (-102 : Int32)) hx hb dX3_slew_31 (by decide) ?_
        have he := Option.some.inj hf
        subst he
        exact kreti hx hb hr hlk hP hD hS dX3_slew_33
      · have hf := kIfF c7 hf
        refine lv_iload_n hx hb dX3_slew_26 rfl (lv_at hl 3 rfl) ?_
        refine lv_iconst (v := (1 : Int32)) hx hb dX3_slew_27 (by decide) ?_
        refine lv_icmp_le (tgt := 34) hx hb dX3_slew_28 (by decide) (fun c8 => ?_) (fun c8 => ?_)
        · have hf := kIfT c8 hf
          refine lv_aload_n hx hb dX3_slew_34 rfl (lv_at hl 0 rfl) ?_
          refine va_get (D := D) (ci := 3) (v := .ref a1) (C := RX3) (T := TX3) (N := 4) hx hb hts hinX3 hown hK.1 hP 0 rfl rfl 0 (by decide) hfl10 (fun _ h9 => h9) rfl dX3_slew_35 ?_
          refine lv_iload_n hx hb dX3_slew_38 rfl (lv_at hl 1 rfl) ?_
          obtain ⟨v9, h10, hf⟩ := kBind hf
          refine kgoR (krunV (wc := (wX1 cI a1 a2 R)) (As := [.int x1]) (rest := []) (ci := 1) hx hb hml hown hts hK (kX1_canAim l D cI a1 a2 R x1 v9 h10) gX3_slew_X1_canAim rfl rfl rfl hdX1_canAim ⟨Nat.le_of_ble_eq_true rfl, Nat.le_of_ble_eq_true rfl⟩ (hP.sub [1, 2] rfl) (hD.sub [1, 2] (by decide) rfl) rfl rfl rfl rfl hl.1 rfl (Nat.le_of_ble_eq_true rfl) dX3_slew_39 ⟨Nat.zero_le _, Nat.zero_le _⟩) hP hD hS hA [1, 2] rfl (fun H locs hP hS => ?_)
          refine kif_neb (tgt := 48) hx hb dX3_slew_42 (by decide) (fun c11 => ?_) (fun c11 => ?_)
          · have hf := kIfT c11 hf
            refine lv_aload_n hx hb dX3_slew_48 rfl (lv_at hl 0 rfl) ?_
            refine va_get (D := D) (ci := 3) (v := .ref a5) (C := RX3) (T := TX3) (N := 4) hx hb hts hinX3 hown hK.1 hP 0 rfl rfl 2 (by decide) hfl22 (fun _ h9 => h9) rfl dX3_slew_49 ?_
            refine lv_aload_n hx hb dX3_slew_52 rfl (lv_at hl 0 rfl) ?_
            refine va_get (D := D) (ci := 3) (v := .ref a1) (C := RX3) (T := TX3) (N := 4) hx hb hts hinX3 hown hK.1 hP 0 rfl rfl 0 (by decide) hfl10 (fun _ h9 => h9) rfl dX3_slew_53 ?_
            obtain ⟨v12, h13, hf⟩ := kBind hf
            refine kgoJ (wr := [(a0, .inr (3, [.ref a1, .ref a3, .ref a5, .ref a7])), (a3, .inr (1, [.ref a4])), (a4, .inl (cI, 132, .inl R2)), (a7, .inr (2, [.ref a8, .int LN, .int PS, .ref a9, .ref a10, .ref a11, .int CM])), (a8, .inl (cI, 80, .inl TB)), (a9, .inl (cI, 20, .inl TC)), (a10, .inl (cI, 20, .inl TW)), (a11, .inl (cI, 20, .inl TG))]) (w2 := (wX3 cI a0 a1 a2 a3 a4 a5 a6 a7 a8 a9 a10 a11 R R2 v12.1 v12.2.1 v12.2.2 TB LN PS TC TW TG CM)) (krunV (wc := (wX0_X1 cI a5 a6 a1 a2 HR HS HN R)) (As := [.ref a1]) (rest := []) (ci := 0) hx hb hml hown hts hK (kX0_keep l D cI a5 a6 a1 a2 HR HS HN R v12 h13) gX3_slew_X0_keep rfl rfl rfl hdX0_keep ⟨Nat.le_of_ble_eq_true rfl, Nat.le_of_ble_eq_true rfl⟩ (hP.sub [5, 6, 1, 2] rfl) (hD.sub [5, 6, 1, 2] (by decide) rfl) rfl rfl rfl rfl hl.1 rfl (Nat.le_of_ble_eq_true rfl) dX3_slew_56 ⟨Nat.zero_le _, Nat.zero_le _⟩) hP hD hS hA [5, 6, 1, 2] [0, 3, 4, 7, 8, 9, 10, 11] [0, 10, 11, 1, 2, 8, 9, 3, 4, 5, 6, 7] rfl rfl (by decide) (by decide) (by decide) rfl (fun H locs hP hD hS => ?_)
            refine lv_aload_n hx hb dX3_slew_59 rfl (lv_at hl 0 rfl) ?_
            refine va_get (D := D) (ci := 3) (v := .ref a1) (C := RX3) (T := TX3) (N := 4) hx hb hts hinX3 hown hK.1 hP 0 rfl rfl 0 (by decide) hfl10 (fun _ h9 => h9) rfl dX3_slew_60 ?_
            refine lv_iload_n hx hb dX3_slew_63 rfl (lv_at hl 1 rfl) ?_
            refine lv_iload_n hx hb dX3_slew_64 rfl (lv_at hl 2 rfl) ?_
            refine lv_iload_n hx hb dX3_slew_65 rfl (lv_at hl 3 rfl) ?_
            obtain ⟨v14, h15, hf⟩ := kBind hf
            refine kgoJ (wr := [(a0, .inr (3, [.ref a1, .ref a3, .ref a5, .ref a7])), (a3, .inr (1, [.ref a4])), (a4, .inl (cI, 132, .inl R2)), (a5, .inr (0, [.ref a6, .int v12.2.1, .int v12.2.2])), (a6, .inl (cI, 660, .inl v12.1)), (a7, .inr (2, [.ref a8, .int LN, .int PS, .ref a9, .ref a10, .ref a11, .int CM])), (a8, .inl (cI, 80, .inl TB)), (a9, .inl (cI, 20, .inl TC)), (a10, .inl (cI, 20, .inl TW)), (a11, .inl (cI, 20, .inl TG))]) (w2 := (wX3 cI a0 a1 a2 a3 a4 a5 a6 a7 a8 a9 a10 a11 v14.2 R2 v12.1 v12.2.1 v12.2.2 TB LN PS TC TW TG CM)) (krunV (wc := (wX1 cI a1 a2 R)) (As := [.int x1, .int x2, .int x3]) (rest := []) (ci := 1) hx hb hml hown hts hK (kX1_aim l D cI a1 a2 R x1 x2 x3 v14 h15) gX3_slew_X1_aim rfl rfl rfl hdX1_aim ⟨Nat.le_of_ble_eq_true rfl, Nat.le_of_ble_eq_true rfl⟩ (hP.sub [1, 2] rfl) (hD.sub [1, 2] (by decide) rfl) rfl rfl rfl rfl hl.1 rfl (Nat.le_of_ble_eq_true rfl) dX3_slew_66 ⟨Nat.zero_le _, Nat.zero_le _⟩) hP hD hS hA [1, 2] [0, 3, 4, 5, 6, 7, 8, 9, 10, 11] [0, 10, 11, 1, 2, 3, 4, 5, 6, 7, 8, 9] rfl rfl (by decide) (by decide) (by decide) rfl (fun H locs hP hD hS => ?_)
            have he := Option.some.inj hf
            subst he
            exact kreti hx hb hr hlk hP hD hS dX3_slew_69
          · have hf := kIfF c11 hf
            refine lv_bipush (v := (-103 : Int32)) hx hb dX3_slew_45 (by decide) ?_
            have he := Option.some.inj hf
            subst he
            exact kreti hx hb hr hlk hP hD hS dX3_slew_47
        · have hf := kIfF c8 hf
          refine lv_bipush (v := (-102 : Int32)) hx hb dX3_slew_31 (by decide) ?_
          have he := Option.some.inj hf
          subst he
          exact kreti hx hb hr hlk hP hD hS dX3_slew_33
  · have hf := kIfF c3 hf
    refine lv_bipush (v := (-101 : Int32)) hx hb dX3_slew_11 (by decide) ?_
    have he := Option.some.inj hf
    subst he
    exact kreti hx hb hr hlk hP hD hS dX3_slew_13
set_option maxHeartbeats 4000000 in
set_option maxRecDepth 100000 in
theorem kX3_stop (l : Launch) (D : va_G) (cI : ClassId) (a0 a1 a2 a3 a4 a5 a6 a7 a8 a9 a10 a11 : Nat) (R : (Nat → Int32)) (R2 : (Nat → Int32)) (HR : (Nat → Int32)) (HS : Int32) (HN : Int32) (TB : (Nat → Int32)) (LN : Int32) (PS : Int32) (TC : (Nat → Int32)) (TW : (Nat → Int32)) (TG : (Nat → Int32)) (CM : Int32) (x1 : Int32) (o : Int32 × (Nat → Int32) × (Nat → Int32) × Int32 × Int32) (hf : fX3_stop R HR HS HN x1 = some o) : Ct l yX3_stop wsX3_stop { frames := 3, cells := 0, slots := 0, locals := 61 } D cI [.ref a0, .int x1] (wX3 cI a0 a1 a2 a3 a4 a5 a6 a7 a8 a9 a10 a11 R R2 HR HS HN TB LN PS TC TW TG CM) (wX3 cI a0 a1 a2 a3 a4 a5 a6 a7 a8 a9 a10 a11 o.2.1 R2 o.2.2.1 o.2.2.2.1 o.2.2.2.2 TB LN PS TC TW TG CM) (some (.int o.1)) := by
  refine Ct.of (cc := cX3_stop) (maxL := 2) (ret := (some .int)) (by decide) rfl (Nat.le_of_ble_eq_true rfl) ?_
  intro p e s m args below meth c A F hP hD hS ls hl
  obtain ⟨hx, hb, hml, hr, hown, hts, hlk, hK, hA⟩ := F
  have hown : s.vm.findClass RX3 = some m.cls := hown
  have hl : lv_has ls 2 [(0, .ref a0), (1, .int x1)] := hl
  have hinX3 : ∀ w ∈ wsX30, w ∈ wsX3_stop := by decide +kernel
  have hfl10 := hts (.fieldLink RX3 10 "CraneGuard" "site" "LCraneGuard$Site;") (by decide +kernel)
  have hfl22 := hts (.fieldLink RX3 22 "CraneGuard" "history" "LCraneGuard$History;") (by decide +kernel)
  unfold fX3_stop at hf
  refine lv_aload_n hx hb dX3_stop_0 rfl (lv_at hl 0 rfl) ?_
  refine va_get (D := D) (ci := 3) (v := .ref a1) (C := RX3) (T := TX3) (N := 4) hx hb hts hinX3 hown hK.1 hP 0 rfl rfl 0 (by decide) hfl10 (fun _ h9 => h9) rfl dX3_stop_1 ?_
  refine lv_iload_n hx hb dX3_stop_4 rfl (lv_at hl 1 rfl) ?_
  obtain ⟨v1, h2, hf⟩ := kBind hf
  refine kgoR (krunV (wc := (wX1 cI a1 a2 R)) (As := [.int x1]) (rest := []) (ci := 1) hx hb hml hown hts hK (kX1_hasCrane l D cI a1 a2 R x1 v1 h2) gX3_stop_X1_hasCrane rfl rfl rfl hdX1_hasCrane ⟨Nat.le_of_ble_eq_true rfl, Nat.le_of_ble_eq_true rfl⟩ (hP.sub [1, 2] rfl) (hD.sub [1, 2] (by decide) rfl) rfl rfl rfl rfl hl.1 rfl (Nat.le_of_ble_eq_true rfl) dX3_stop_5 ⟨Nat.zero_le _, Nat.zero_le _⟩) hP hD hS hA [1, 2] rfl (fun H locs hP hS => ?_)
  refine kif_neb (tgt := 14) hx hb dX3_stop_8 (by decide) (fun c3 => ?_) (fun c3 => ?_)
  · have hf := kIfT c3 hf
    refine lv_aload_n hx hb dX3_stop_14 rfl (lv_at hl 0 rfl) ?_
    refine va_get (D := D) (ci := 3) (v := .ref a1) (C := RX3) (T := TX3) (N := 4) hx hb hts hinX3 hown hK.1 hP 0 rfl rfl 0 (by decide) hfl10 (fun _ h9 => h9) rfl dX3_stop_15 ?_
    refine lv_iload_n hx hb dX3_stop_18 rfl (lv_at hl 1 rfl) ?_
    obtain ⟨v4, h5, hf⟩ := kBind hf
    refine kgoR (krunV (wc := (wX1 cI a1 a2 R)) (As := [.int x1]) (rest := []) (ci := 1) hx hb hml hown hts hK (kX1_isOnStep l D cI a1 a2 R x1 v4 h5) gX3_stop_X1_isOnStep rfl rfl rfl hdX1_isOnStep ⟨Nat.le_of_ble_eq_true rfl, Nat.le_of_ble_eq_true rfl⟩ (hP.sub [1, 2] rfl) (hD.sub [1, 2] (by decide) rfl) rfl rfl rfl rfl hl.1 rfl (Nat.le_of_ble_eq_true rfl) dX3_stop_19 ⟨Nat.zero_le _, Nat.zero_le _⟩) hP hD hS hA [1, 2] rfl (fun H locs hP hS => ?_)
    refine kif_eqb (tgt := 28) hx hb dX3_stop_22 (by decide) (fun c6 => ?_) (fun c6 => ?_)
    · have hf := kIfF c6 hf
      refine lv_aload_n hx hb dX3_stop_28 rfl (lv_at hl 0 rfl) ?_
      refine va_get (D := D) (ci := 3) (v := .ref a5) (C := RX3) (T := TX3) (N := 4) hx hb hts hinX3 hown hK.1 hP 0 rfl rfl 2 (by decide) hfl22 (fun _ h9 => h9) rfl dX3_stop_29 ?_
      refine lv_aload_n hx hb dX3_stop_32 rfl (lv_at hl 0 rfl) ?_
      refine va_get (D := D) (ci := 3) (v := .ref a1) (C := RX3) (T := TX3) (N := 4) hx hb hts hinX3 hown hK.1 hP 0 rfl rfl 0 (by decide) hfl10 (fun _ h9 => h9) rfl dX3_stop_33 ?_
      obtain ⟨v7, h8, hf⟩ := kBind hf
      refine kgoJ (wr := [(a0, .inr (3, [.ref a1, .ref a3, .ref a5, .ref a7])), (a3, .inr (1, [.ref a4])), (a4, .inl (cI, 132, .inl R2)), (a7, .inr (2, [.ref a8, .int LN, .int PS, .ref a9, .ref a10, .ref a11, .int CM])), (a8, .inl (cI, 80, .inl TB)), (a9, .inl (cI, 20, .inl TC)), (a10, .inl (cI, 20, .inl TW)), (a11, .inl (cI, 20, .inl TG))]) (w2 := (wX3 cI a0 a1 a2 a3 a4 a5 a6 a7 a8 a9 a10 a11 R R2 v7.1 v7.2.1 v7.2.2 TB LN PS TC TW TG CM)) (krunV (wc := (wX0_X1 cI a5 a6 a1 a2 HR HS HN R)) (As := [.ref a1]) (rest := []) (ci := 0) hx hb hml hown hts hK (kX0_keep l D cI a5 a6 a1 a2 HR HS HN R v7 h8) gX3_stop_X0_keep rfl rfl rfl hdX0_keep ⟨Nat.le_of_ble_eq_true rfl, Nat.le_of_ble_eq_true rfl⟩ (hP.sub [5, 6, 1, 2] rfl) (hD.sub [5, 6, 1, 2] (by decide) rfl) rfl rfl rfl rfl hl.1 rfl (Nat.le_of_ble_eq_true rfl) dX3_stop_36 ⟨Nat.zero_le _, Nat.zero_le _⟩) hP hD hS hA [5, 6, 1, 2] [0, 3, 4, 7, 8, 9, 10, 11] [0, 10, 11, 1, 2, 8, 9, 3, 4, 5, 6, 7] rfl rfl (by decide) (by decide) (by decide) rfl (fun H locs hP hD hS => ?_)
      refine lv_aload_n hx hb dX3_stop_39 rfl (lv_at hl 0 rfl) ?_
      refine va_get (D := D) (ci := 3) (v := .ref a1) (C := RX3) (T := TX3) (N := 4) hx hb hts hinX3 hown hK.1 hP 0 rfl rfl 0 (by decide) hfl10 (fun _ h9 => h9) rfl dX3_stop_40 ?_
      refine lv_iload_n hx hb dX3_stop_43 rfl (lv_at hl 1 rfl) ?_
      obtain ⟨v9, h10, hf⟩ := kBind hf
      refine kgoJ (wr := [(a0, .inr (3, [.ref a1, .ref a3, .ref a5, .ref a7])), (a3, .inr (1, [.ref a4])), (a4, .inl (cI, 132, .inl R2)), (a5, .inr (0, [.ref a6, .int v7.2.1, .int v7.2.2])), (a6, .inl (cI, 660, .inl v7.1)), (a7, .inr (2, [.ref a8, .int LN, .int PS, .ref a9, .ref a10, .ref a11, .int CM])), (a8, .inl (cI, 80, .inl TB)), (a9, .inl (cI, 20, .inl TC)), (a10, .inl (cI, 20, .inl TW)), (a11, .inl (cI, 20, .inl TG))]) (w2 := (wX3 cI a0 a1 a2 a3 a4 a5 a6 a7 a8 a9 a10 a11 v9.2 R2 v7.1 v7.2.1 v7.2.2 TB LN PS TC TW TG CM)) (krunV (wc := (wX1 cI a1 a2 R)) (As := [.int x1]) (rest := []) (ci := 1) hx hb hml hown hts hK (kX1_dropTarget l D cI a1 a2 R x1 v9 h10) gX3_stop_X1_dropTarget rfl rfl rfl hdX1_dropTarget ⟨Nat.le_of_ble_eq_true rfl, Nat.le_of_ble_eq_true rfl⟩ (hP.sub [1, 2] rfl) (hD.sub [1, 2] (by decide) rfl) rfl rfl rfl rfl hl.1 rfl (Nat.le_of_ble_eq_true rfl) dX3_stop_44 ⟨Nat.zero_le _, Nat.zero_le _⟩) hP hD hS hA [1, 2] [0, 3, 4, 5, 6, 7, 8, 9, 10, 11] [0, 10, 11, 1, 2, 3, 4, 5, 6, 7, 8, 9] rfl rfl (by decide) (by decide) (by decide) rfl (fun H locs hP hD hS => ?_)
      have he := Option.some.inj hf
      subst he
      exact kreti hx hb hr hlk hP hD hS dX3_stop_47
    · have hf := kIfT c6 hf
      refine lv_bipush (v := (-103 : Int32)) hx hb dX3_stop_25 (by decide) ?_
      have he := Option.some.inj hf
      subst he
      exact kreti hx hb hr hlk hP hD hS dX3_stop_27
  · have hf := kIfF c3 hf
    refine lv_bipush (v := (-101 : Int32)) hx hb dX3_stop_11 (by decide) ?_
    have he := Option.some.inj hf
    subst he
    exact kreti hx hb hr hlk hP hD hS dX3_stop_13
set_option maxHeartbeats 4000000 in
set_option maxRecDepth 100000 in
theorem kX3_textFault (l : Launch) (D : va_G) (cI : ClassId) (fu : Nat) (a0 a1 a2 a3 a4 a5 a6 a7 a8 a9 a10 a11 : Nat) (R : (Nat → Int32)) (R2 : (Nat → Int32)) (HR : (Nat → Int32)) (HS : Int32) (HN : Int32) (TB : (Nat → Int32)) (LN : Int32) (PS : Int32) (TC : (Nat → Int32)) (TW : (Nat → Int32)) (TG : (Nat → Int32)) (CM : Int32) (o : Int32 × Int32 × (Nat → Int32) × (Nat → Int32) × (Nat → Int32) × Int32) (hf : fX3_textFault fu R TB LN TC TW TG = some o) : Ct l yX3_textFault wsX3_textFault { frames := 4, cells := 0, slots := 0, locals := 91 } D cI [.ref a0] (wX3 cI a0 a1 a2 a3 a4 a5 a6 a7 a8 a9 a10 a11 R R2 HR HS HN TB LN PS TC TW TG CM) (wX3 cI a0 a1 a2 a3 a4 a5 a6 a7 a8 a9 a10 a11 R R2 HR HS HN TB LN o.2.1 o.2.2.1 o.2.2.2.1 o.2.2.2.2.1 o.2.2.2.2.2) (some (.int o.1)) := by
  refine Ct.of (cc := cX3_textFault) (maxL := 1) (ret := (some .int)) (by decide) rfl (Nat.le_of_ble_eq_true rfl) ?_
  intro p e s m args below meth c A F hP hD hS ls hl
  obtain ⟨hx, hb, hml, hr, hown, hts, hlk, hK, hA⟩ := F
  have hown : s.vm.findClass RX3 = some m.cls := hown
  have hl : lv_has ls 1 [(0, .ref a0)] := hl
  have hinX3 : ∀ w ∈ wsX30, w ∈ wsX3_textFault := by decide +kernel
  have hfl10 := hts (.fieldLink RX3 10 "CraneGuard" "site" "LCraneGuard$Site;") (by decide +kernel)
  have hfl29 := hts (.fieldLink RX3 29 "CraneGuard" "text" "LCraneGuard$Text;") (by decide +kernel)
  unfold fX3_textFault at hf
  refine lv_aload_n hx hb dX3_textFault_0 rfl (lv_at hl 0 rfl) ?_
  refine va_get (D := D) (ci := 3) (v := .ref a7) (C := RX3) (T := TX3) (N := 4) hx hb hts hinX3 hown hK.1 hP 0 rfl rfl 3 (by decide) hfl29 (fun _ h9 => h9) rfl dX3_textFault_1 ?_
  refine lv_aload_n hx hb dX3_textFault_4 rfl (lv_at hl 0 rfl) ?_
  refine va_get (D := D) (ci := 3) (v := .ref a1) (C := RX3) (T := TX3) (N := 4) hx hb hts hinX3 hown hK.1 hP 0 rfl rfl 0 (by decide) hfl10 (fun _ h9 => h9) rfl dX3_textFault_5 ?_
  obtain ⟨v1, h2, hf⟩ := kBind hf
  refine kgoJ (wr := [(a0, .inr (3, [.ref a1, .ref a3, .ref a5, .ref a7])), (a3, .inr (1, [.ref a4])), (a4, .inl (cI, 132, .inl R2)), (a5, .inr (0, [.ref a6, .int HS, .int HN])), (a6, .inl (cI, 660, .inl HR))]) (w2 := (wX3 cI a0 a1 a2 a3 a4 a5 a6 a7 a8 a9 a10 a11 R R2 HR HS HN TB LN v1.2.1 v1.2.2.1 v1.2.2.2.1 v1.2.2.2.2.1 v1.2.2.2.2.2)) (krunV (wc := (wX2_X1 cI a7 a8 a9 a10 a11 a1 a2 TB LN PS TC TW TG CM R)) (As := [.ref a1]) (rest := []) (ci := 2) hx hb hml hown hts hK (kX2_read l D cI fu a7 a8 a9 a10 a11 a1 a2 TB LN PS TC TW TG CM R v1 h2) gX3_textFault_X2_read rfl rfl rfl hdX2_read ⟨Nat.le_of_ble_eq_true rfl, Nat.le_of_ble_eq_true rfl⟩ (hP.sub [7, 8, 9, 10, 11, 1, 2] rfl) (hD.sub [7, 8, 9, 10, 11, 1, 2] (by decide) rfl) rfl rfl rfl rfl hl.1 rfl (Nat.le_of_ble_eq_true rfl) dX3_textFault_8 ⟨Nat.zero_le _, Nat.zero_le _⟩) hP hD hS hA [7, 8, 9, 10, 11, 1, 2] [0, 3, 4, 5, 6] [0, 10, 11, 1, 2, 3, 4, 5, 6, 7, 8, 9] rfl rfl (by decide) (by decide) (by decide) rfl (fun H locs hP hD hS => ?_)
  have he := Option.some.inj hf
  subst he
  exact kreti hx hb hr hlk hP hD hS dX3_textFault_11
set_option maxHeartbeats 4000000 in
set_option maxRecDepth 100000 in
theorem kX3_tick (l : Launch) (D : va_G) (cI : ClassId) (fu : Nat) (a0 a1 a2 a3 a4 a5 a6 a7 a8 a9 a10 a11 : Nat) (R : (Nat → Int32)) (R2 : (Nat → Int32)) (HR : (Nat → Int32)) (HS : Int32) (HN : Int32) (TB : (Nat → Int32)) (LN : Int32) (PS : Int32) (TC : (Nat → Int32)) (TW : (Nat → Int32)) (TG : (Nat → Int32)) (CM : Int32) (x1 : Int32) (o : Int32 × (Nat → Int32) × (Nat → Int32) × Int32 × Int32) (hf : fX3_tick fu R HR HS HN x1 = some o) : Ct l yX3_tick wsX3_tick { frames := 5, cells := 0, slots := 0, locals := 115 } D cI [.ref a0, .int x1] (wX3 cI a0 a1 a2 a3 a4 a5 a6 a7 a8 a9 a10 a11 R R2 HR HS HN TB LN PS TC TW TG CM) (wX3 cI a0 a1 a2 a3 a4 a5 a6 a7 a8 a9 a10 a11 o.2.1 R2 o.2.2.1 o.2.2.2.1 o.2.2.2.2 TB LN PS TC TW TG CM) (some (.int o.1)) := by
  refine Ct.of (cc := cX3_tick) (maxL := 3) (ret := (some .int)) (by decide) rfl (Nat.le_of_ble_eq_true rfl) ?_
  intro p e s m args below meth c A F hP hD hS ls hl
  obtain ⟨hx, hb, hml, hr, hown, hts, hlk, hK, hA⟩ := F
  have hown : s.vm.findClass RX3 = some m.cls := hown
  have hl : lv_has ls 3 [(0, .ref a0), (1, .int x1)] := hl
  have hinX3 : ∀ w ∈ wsX30, w ∈ wsX3_tick := by decide +kernel
  have hfl10 := hts (.fieldLink RX3 10 "CraneGuard" "site" "LCraneGuard$Site;") (by decide +kernel)
  have hfl22 := hts (.fieldLink RX3 22 "CraneGuard" "history" "LCraneGuard$History;") (by decide +kernel)
  unfold fX3_tick at hf
  refine lv_iload_n hx hb dX3_tick_0 rfl (lv_at hl 1 rfl) ?_
  refine lv_iconst (v := (1 : Int32)) hx hb dX3_tick_1 (by decide) ?_
  refine lv_icmp_lt (tgt := 12) hx hb dX3_tick_2 (by decide) (fun c1 => ?_) (fun c1 => ?_)
  · have hf := kIfT c1 hf
    refine lv_bipush (v := (-102 : Int32)) hx hb dX3_tick_12 (by decide) ?_
    have he := Option.some.inj hf
    subst he
    exact kreti hx hb hr hlk hP hD hS dX3_tick_14
  · have hf := kIfF c1 hf
    refine lv_iload_n hx hb dX3_tick_5 rfl (lv_at hl 1 rfl) ?_
    refine lv_sipush (v := (200 : Int32)) hx hb dX3_tick_6 (by decide) ?_
    refine lv_icmp_le (tgt := 15) hx hb dX3_tick_9 (by decide) (fun c2 => ?_) (fun c2 => ?_)
    · have hf := kIfT c2 hf
      refine lv_aload_n hx hb dX3_tick_15 rfl (lv_at hl 0 rfl) ?_
      refine va_get (D := D) (ci := 3) (v := .ref a1) (C := RX3) (T := TX3) (N := 4) hx hb hts hinX3 hown hK.1 hP 0 rfl rfl 0 (by decide) hfl10 (fun _ h9 => h9) rfl dX3_tick_16 ?_
      obtain ⟨v3, h4, hf⟩ := kBind hf
      refine kgoR (krunV (wc := (wX1 cI a1 a2 R)) (As := []) (rest := []) (ci := 1) hx hb hml hown hts hK (kX1_now l D cI a1 a2 R v3 h4) gX3_tick_X1_now rfl rfl rfl hdX1_now ⟨Nat.le_of_ble_eq_true rfl, Nat.le_of_ble_eq_true rfl⟩ (hP.sub [1, 2] rfl) (hD.sub [1, 2] (by decide) rfl) rfl rfl rfl rfl hl.1 rfl (Nat.le_of_ble_eq_true rfl) dX3_tick_19 ⟨Nat.zero_le _, Nat.zero_le _⟩) hP hD hS hA [1, 2] rfl (fun H locs hP hS => ?_)
      refine lv_iload_n hx hb dX3_tick_22 rfl (lv_at hl 1 rfl) ?_
      refine lv_iadd hx hb dX3_tick_23 ?_
      refine lv_ldc (v := (100000 : Int32)) hx hb hown (hts (.constant RX3 117 (100000)) (by decide +kernel)) dX3_tick_24 ?_
      refine lv_icmp_le (tgt := 32) hx hb dX3_tick_26 (by decide) (fun c5 => ?_) (fun c5 => ?_)
      · have hf := kIfT c5 hf
        refine lv_aload_n hx hb dX3_tick_32 rfl (lv_at hl 0 rfl) ?_
        refine va_get (D := D) (ci := 3) (v := .ref a5) (C := RX3) (T := TX3) (N := 4) hx hb hts hinX3 hown hK.1 hP 0 rfl rfl 2 (by decide) hfl22 (fun _ h9 => h9) rfl dX3_tick_33 ?_
        refine lv_aload_n hx hb dX3_tick_36 rfl (lv_at hl 0 rfl) ?_
        refine va_get (D := D) (ci := 3) (v := .ref a1) (C := RX3) (T := TX3) (N := 4) hx hb hts hinX3 hown hK.1 hP 0 rfl rfl 0 (by decide) hfl10 (fun _ h9 => h9) rfl dX3_tick_37 ?_
        obtain ⟨v6, h7, hf⟩ := kBind hf
        refine kgoJ (wr := [(a0, .inr (3, [.ref a1, .ref a3, .ref a5, .ref a7])), (a3, .inr (1, [.ref a4])), (a4, .inl (cI, 132, .inl R2)), (a7, .inr (2, [.ref a8, .int LN, .int PS, .ref a9, .ref a10, .ref a11, .int CM])), (a8, .inl (cI, 80, .inl TB)), (a9, .inl (cI, 20, .inl TC)), (a10, .inl (cI, 20, .inl TW)), (a11, .inl (cI, 20, .inl TG))]) (w2 := (wX3 cI a0 a1 a2 a3 a4 a5 a6 a7 a8 a9 a10 a11 R R2 v6.1 v6.2.1 v6.2.2 TB LN PS TC TW TG CM)) (krunV (wc := (wX0_X1 cI a5 a6 a1 a2 HR HS HN R)) (As := [.ref a1]) (rest := []) (ci := 0) hx hb hml hown hts hK (kX0_keep l D cI a5 a6 a1 a2 HR HS HN R v6 h7) gX3_tick_X0_keep rfl rfl rfl hdX0_keep ⟨Nat.le_of_ble_eq_true rfl, Nat.le_of_ble_eq_true rfl⟩ (hP.sub [5, 6, 1, 2] rfl) (hD.sub [5, 6, 1, 2] (by decide) rfl) rfl rfl rfl rfl hl.1 rfl (Nat.le_of_ble_eq_true rfl) dX3_tick_40 ⟨Nat.zero_le _, Nat.zero_le _⟩) hP hD hS hA [5, 6, 1, 2] [0, 3, 4, 7, 8, 9, 10, 11] [0, 10, 11, 1, 2, 8, 9, 3, 4, 5, 6, 7] rfl rfl (by decide) (by decide) (by decide) rfl (fun H locs hP hD hS => ?_)
        refine lv_iconst (v := (0 : Int32)) hx hb dX3_tick_43 (by decide) ?_
        refine lv_istore_n (lv' := [(2, .int (0 : Int32)), (0, .ref a0), (1, .int x1)]) hx hb dX3_tick_44 rfl hl (by decide) rfl (fun ls hl => ?_)
        have hl : lv_has ls 3 [(2, .int (0 : Int32)), (0, .ref a0), (1, .int x1)] := hl
        refine klp hf (fun t45 : (Nat → Int32) × Int32 => (wX3 cI a0 a1 a2 a3 a4 a5 a6 a7 a8 a9 a10 a11 t45.1 R2 v6.1 v6.2.1 v6.2.2 TB LN PS TC TW TG CM)) 3 (fun t45 : (Nat → Int32) × Int32 => [(2, .int t45.2), (0, .ref a0), (1, .int x1)]) ?_ hP hD hS hl
        intro t45 x45_ hf hI1 hO1 H locs ls hP hD hS hl
        unfold fX3_tick_L45 at hf
        have hP : va_P D vwCl (wX3 cI a0 a1 a2 a3 a4 a5 a6 a7 a8 a9 a10 a11 t45.1 R2 v6.1 v6.2.1 v6.2.2 TB LN PS TC TW TG CM) H := hP
        have hD : va_D A (wX3 cI a0 a1 a2 a3 a4 a5 a6 a7 a8 a9 a10 a11 t45.1 R2 v6.1 v6.2.1 v6.2.2 TB LN PS TC TW TG CM) := hD
        have hl : lv_has ls 3 [(2, .int t45.2), (0, .ref a0), (1, .int x1)] := hl
        refine lv_iload_n hx hb dX3_tick_45 rfl (lv_at hl 0 rfl) ?_
        refine lv_iload_n hx hb dX3_tick_46 rfl (lv_at hl 2 rfl) ?_
        refine lv_icmp_ge (tgt := 64) hx hb dX3_tick_47 (by decide) (fun c14 => ?_) (fun c14 => ?_)
        · have hf := kIfT c14 hf
          refine lv_aload_n hx hb dX3_tick_64 rfl (lv_at hl 1 rfl) ?_
          refine va_get (D := D) (ci := 3) (v := .ref a1) (C := RX3) (T := TX3) (N := 4) hx hb hts hinX3 hown hK.1 hP 0 rfl rfl 0 (by decide) hfl10 (fun _ h9 => h9) rfl dX3_tick_65 ?_
          obtain ⟨v15, h16, hf⟩ := kBind hf
          refine kgoR (krunV (wc := (wX1 cI a1 a2 t45.1)) (As := []) (rest := []) (ci := 1) hx hb hml hown hts hK (kX1_now l D cI a1 a2 t45.1 v15 h16) gX3_tick_X1_now rfl rfl rfl hdX1_now ⟨Nat.le_of_ble_eq_true rfl, Nat.le_of_ble_eq_true rfl⟩ (hP.sub [1, 2] rfl) (hD.sub [1, 2] (by decide) rfl) rfl rfl rfl rfl hl.1 rfl (Nat.le_of_ble_eq_true rfl) dX3_tick_68 ⟨Nat.zero_le _, Nat.zero_le _⟩) hP hD hS hA [1, 2] rfl (fun H locs hP hS => ?_)
          have he := Option.some.inj hf
          have he := hO1 _ he.symm
          subst he
          exact kreti hx hb hr hlk hP hD hS dX3_tick_71
        · have hf := kIfF c14 hf
          refine lv_aload_n hx hb dX3_tick_50 rfl (lv_at hl 1 rfl) ?_
          refine va_get (D := D) (ci := 3) (v := .ref a1) (C := RX3) (T := TX3) (N := 4) hx hb hts hinX3 hown hK.1 hP 0 rfl rfl 0 (by decide) hfl10 (fun _ h9 => h9) rfl dX3_tick_51 ?_
          obtain ⟨v17, h18, hf⟩ := kBind hf
          refine kgoJ (wr := [(a0, .inr (3, [.ref a1, .ref a3, .ref a5, .ref a7])), (a3, .inr (1, [.ref a4])), (a4, .inl (cI, 132, .inl R2)), (a5, .inr (0, [.ref a6, .int v6.2.1, .int v6.2.2])), (a6, .inl (cI, 660, .inl v6.1)), (a7, .inr (2, [.ref a8, .int LN, .int PS, .ref a9, .ref a10, .ref a11, .int CM])), (a8, .inl (cI, 80, .inl TB)), (a9, .inl (cI, 20, .inl TC)), (a10, .inl (cI, 20, .inl TW)), (a11, .inl (cI, 20, .inl TG))]) (w2 := (wX3 cI a0 a1 a2 a3 a4 a5 a6 a7 a8 a9 a10 a11 v17.2 R2 v6.1 v6.2.1 v6.2.2 TB LN PS TC TW TG CM)) (krunV (wc := (wX1 cI a1 a2 t45.1)) (As := []) (rest := []) (ci := 1) hx hb hml hown hts hK (kX1_passTick l D cI fu a1 a2 t45.1 v17 h18) gX3_tick_X1_passTick rfl rfl rfl hdX1_passTick ⟨Nat.le_of_ble_eq_true rfl, Nat.le_of_ble_eq_true rfl⟩ (hP.sub [1, 2] rfl) (hD.sub [1, 2] (by decide) rfl) rfl rfl rfl rfl hl.1 rfl (Nat.le_of_ble_eq_true rfl) dX3_tick_54 ⟨Nat.zero_le _, Nat.zero_le _⟩) hP hD hS hA [1, 2] [0, 3, 4, 5, 6, 7, 8, 9, 10, 11] [0, 10, 11, 1, 2, 3, 4, 5, 6, 7, 8, 9] rfl rfl (by decide) (by decide) (by decide) rfl (fun H locs hP hD hS => ?_)
          refine lv_pop hx hb dX3_tick_57 rfl ?_
          refine lv_iinc (v := t45.2 + (1 : Int32)) (lv' := [(2, .int (t45.2 + (1 : Int32))), (0, .ref a0), (1, .int x1)]) hx hb dX3_tick_58 hl (k := 0) rfl rfl (by decide) rfl (fun ls hl => ?_)
          refine lv_goto (tgt := 45) hx hb dX3_tick_61 (by decide) ?_
          obtain ⟨z19, hz19⟩ : ∃ z : Int32, z = t45.2 + (1 : Int32) := ⟨_, rfl⟩
          rw [← hz19] at hf
          have he := (Option.some.inj hf).symm
          have hl : lv_has ls 3 [(2, .int z19), (0, .ref a0), (1, .int x1)] := by rw [hz19]; exact lv_sub hl [0, 1, 2] rfl
          exact hI1 _ he H locs ls hP hD hS hl
      · have hf := kIfF c5 hf
        refine lv_bipush (v := (-104 : Int32)) hx hb dX3_tick_29 (by decide) ?_
        have he := Option.some.inj hf
        subst he
        exact kreti hx hb hr hlk hP hD hS dX3_tick_31
    · have hf := kIfF c2 hf
      refine lv_bipush (v := (-102 : Int32)) hx hb dX3_tick_12 (by decide) ?_
      have he := Option.some.inj hf
      subst he
      exact kreti hx hb hr hlk hP hD hS dX3_tick_14
set_option maxHeartbeats 4000000 in
set_option maxRecDepth 100000 in
theorem kX3_time (l : Launch) (D : va_G) (cI : ClassId) (a0 a1 a2 a3 a4 a5 a6 a7 a8 a9 a10 a11 : Nat) (R : (Nat → Int32)) (R2 : (Nat → Int32)) (HR : (Nat → Int32)) (HS : Int32) (HN : Int32) (TB : (Nat → Int32)) (LN : Int32) (PS : Int32) (TC : (Nat → Int32)) (TW : (Nat → Int32)) (TG : (Nat → Int32)) (CM : Int32) (o : Int32) (hf : fX3_time R = some o) : Ct l yX3_time wsX3_time { frames := 1, cells := 0, slots := 0, locals := 20 } D cI [.ref a0] (wX3 cI a0 a1 a2 a3 a4 a5 a6 a7 a8 a9 a10 a11 R R2 HR HS HN TB LN PS TC TW TG CM) (wX3 cI a0 a1 a2 a3 a4 a5 a6 a7 a8 a9 a10 a11 R R2 HR HS HN TB LN PS TC TW TG CM) (some (.int o)) := by
  refine Ct.of (cc := cX3_time) (maxL := 1) (ret := (some .int)) (by decide) rfl (Nat.le_of_ble_eq_true rfl) ?_
  intro p e s m args below meth c A F hP hD hS ls hl
  obtain ⟨hx, hb, hml, hr, hown, hts, hlk, hK, hA⟩ := F
  have hown : s.vm.findClass RX3 = some m.cls := hown
  have hl : lv_has ls 1 [(0, .ref a0)] := hl
  have hinX3 : ∀ w ∈ wsX30, w ∈ wsX3_time := by decide +kernel
  have hfl10 := hts (.fieldLink RX3 10 "CraneGuard" "site" "LCraneGuard$Site;") (by decide +kernel)
  unfold fX3_time at hf
  refine lv_aload_n hx hb dX3_time_0 rfl (lv_at hl 0 rfl) ?_
  refine va_get (D := D) (ci := 3) (v := .ref a1) (C := RX3) (T := TX3) (N := 4) hx hb hts hinX3 hown hK.1 hP 0 rfl rfl 0 (by decide) hfl10 (fun _ h9 => h9) rfl dX3_time_1 ?_
  obtain ⟨v1, h2, hf⟩ := kBind hf
  refine kgoR (krunV (wc := (wX1 cI a1 a2 R)) (As := []) (rest := []) (ci := 1) hx hb hml hown hts hK (kX1_now l D cI a1 a2 R v1 h2) gX3_time_X1_now rfl rfl rfl hdX1_now ⟨Nat.le_of_ble_eq_true rfl, Nat.le_of_ble_eq_true rfl⟩ (hP.sub [1, 2] rfl) (hD.sub [1, 2] (by decide) rfl) rfl rfl rfl rfl hl.1 rfl (Nat.le_of_ble_eq_true rfl) dX3_time_4 ⟨Nat.zero_le _, Nat.zero_le _⟩) hP hD hS hA [1, 2] rfl (fun H locs hP hS => ?_)
  have he := Option.some.inj hf
  subst he
  exact kreti hx hb hr hlk hP hD hS dX3_time_7
set_option maxHeartbeats 4000000 in
set_option maxRecDepth 100000 in
theorem kX3_turnRound (l : Launch) (D : va_G) (cI : ClassId) (a0 a1 a2 a3 a4 a5 a6 a7 a8 a9 a10 a11 : Nat) (R : (Nat → Int32)) (R2 : (Nat → Int32)) (HR : (Nat → Int32)) (HS : Int32) (HN : Int32) (TB : (Nat → Int32)) (LN : Int32) (PS : Int32) (TC : (Nat → Int32)) (TW : (Nat → Int32)) (TG : (Nat → Int32)) (CM : Int32) (x1 : Int32) (o : Int32 × (Nat → Int32) × (Nat → Int32) × Int32 × Int32) (hf : fX3_turnRound R HR HS HN x1 = some o) : Ct l yX3_turnRound wsX3_turnRound { frames := 3, cells := 0, slots := 0, locals := 65 } D cI [.ref a0, .int x1] (wX3 cI a0 a1 a2 a3 a4 a5 a6 a7 a8 a9 a10 a11 R R2 HR HS HN TB LN PS TC TW TG CM) (wX3 cI a0 a1 a2 a3 a4 a5 a6 a7 a8 a9 a10 a11 o.2.1 R2 o.2.2.1 o.2.2.2.1 o.2.2.2.2 TB LN PS TC TW TG CM) (some (.int o.1)) := by
  refine Ct.of (cc := cX3_turnRound) (maxL := 2) (ret := (some .int)) (by decide) rfl (Nat.le_of_ble_eq_true rfl) ?_
  intro p e s m args below meth c A F hP hD hS ls hl
  obtain ⟨hx, hb, hml, hr, hown, hts, hlk, hK, hA⟩ := F
  have hown : s.vm.findClass RX3 = some m.cls := hown
  have hl : lv_has ls 2 [(0, .ref a0), (1, .int x1)] := hl
  have hinX3 : ∀ w ∈ wsX30, w ∈ wsX3_turnRound := by decide +kernel
  have hfl10 := hts (.fieldLink RX3 10 "CraneGuard" "site" "LCraneGuard$Site;") (by decide +kernel)
  have hfl22 := hts (.fieldLink RX3 22 "CraneGuard" "history" "LCraneGuard$History;") (by decide +kernel)
  unfold fX3_turnRound at hf
  refine lv_aload_n hx hb dX3_turnRound_0 rfl (lv_at hl 0 rfl) ?_
  refine va_get (D := D) (ci := 3) (v := .ref a1) (C := RX3) (T := TX3) (N := 4) hx hb hts hinX3 hown hK.1 hP 0 rfl rfl 0 (by decide) hfl10 (fun _ h9 => h9) rfl dX3_turnRound_1 ?_
  refine lv_iload_n hx hb dX3_turnRound_4 rfl (lv_at hl 1 rfl) ?_
  obtain ⟨v1, h2, hf⟩ := kBind hf
  refine kgoR (krunV (wc := (wX1 cI a1 a2 R)) (As := [.int x1]) (rest := []) (ci := 1) hx hb hml hown hts hK (kX1_hasCrane l D cI a1 a2 R x1 v1 h2) gX3_turnRound_X1_hasCrane rfl rfl rfl hdX1_hasCrane ⟨Nat.le_of_ble_eq_true rfl, Nat.le_of_ble_eq_true rfl⟩ (hP.sub [1, 2] rfl) (hD.sub [1, 2] (by decide) rfl) rfl rfl rfl rfl hl.1 rfl (Nat.le_of_ble_eq_true rfl) dX3_turnRound_5 ⟨Nat.zero_le _, Nat.zero_le _⟩) hP hD hS hA [1, 2] rfl (fun H locs hP hS => ?_)
  refine kif_neb (tgt := 14) hx hb dX3_turnRound_8 (by decide) (fun c3 => ?_) (fun c3 => ?_)
  · have hf := kIfT c3 hf
    refine lv_aload_n hx hb dX3_turnRound_14 rfl (lv_at hl 0 rfl) ?_
    refine va_get (D := D) (ci := 3) (v := .ref a1) (C := RX3) (T := TX3) (N := 4) hx hb hts hinX3 hown hK.1 hP 0 rfl rfl 0 (by decide) hfl10 (fun _ h9 => h9) rfl dX3_turnRound_15 ?_
    refine lv_iload_n hx hb dX3_turnRound_18 rfl (lv_at hl 1 rfl) ?_
    obtain ⟨v4, h5, hf⟩ := kBind hf
    refine kgoR (krunV (wc := (wX1 cI a1 a2 R)) (As := [.int x1]) (rest := []) (ci := 1) hx hb hml hown hts hK (kX1_hasTarget l D cI a1 a2 R x1 v4 h5) gX3_turnRound_X1_hasTarget rfl rfl rfl hdX1_hasTarget ⟨Nat.le_of_ble_eq_true rfl, Nat.le_of_ble_eq_true rfl⟩ (hP.sub [1, 2] rfl) (hD.sub [1, 2] (by decide) rfl) rfl rfl rfl rfl hl.1 rfl (Nat.le_of_ble_eq_true rfl) dX3_turnRound_19 ⟨Nat.zero_le _, Nat.zero_le _⟩) hP hD hS hA [1, 2] rfl (fun H locs hP hS => ?_)
    refine kif_eqb (tgt := 36) hx hb dX3_turnRound_22 (by decide) (fun c6 => ?_) (fun c6 => ?_)
    · have hf := kIfF c6 hf
      refine lv_bipush (v := (-103 : Int32)) hx hb dX3_turnRound_36 (by decide) ?_
      have he := Option.some.inj hf
      subst he
      exact kreti hx hb hr hlk hP hD hS dX3_turnRound_38
    · have hf := kIfT c6 hf
      refine lv_aload_n hx hb dX3_turnRound_25 rfl (lv_at hl 0 rfl) ?_
      refine va_get (D := D) (ci := 3) (v := .ref a1) (C := RX3) (T := TX3) (N := 4) hx hb hts hinX3 hown hK.1 hP 0 rfl rfl 0 (by decide) hfl10 (fun _ h9 => h9) rfl dX3_turnRound_26 ?_
      refine lv_iload_n hx hb dX3_turnRound_29 rfl (lv_at hl 1 rfl) ?_
      obtain ⟨v7, h8, hf⟩ := kBind hf
      refine kgoR (krunV (wc := (wX1 cI a1 a2 R)) (As := [.int x1]) (rest := []) (ci := 1) hx hb hml hown hts hK (kX1_isOnStep l D cI a1 a2 R x1 v7 h8) gX3_turnRound_X1_isOnStep rfl rfl rfl hdX1_isOnStep ⟨Nat.le_of_ble_eq_true rfl, Nat.le_of_ble_eq_true rfl⟩ (hP.sub [1, 2] rfl) (hD.sub [1, 2] (by decide) rfl) rfl rfl rfl rfl hl.1 rfl (Nat.le_of_ble_eq_true rfl) dX3_turnRound_30 ⟨Nat.zero_le _, Nat.zero_le _⟩) hP hD hS hA [1, 2] rfl (fun H locs hP hS => ?_)
      refine kif_eqb (tgt := 39) hx hb dX3_turnRound_33 (by decide) (fun c9 => ?_) (fun c9 => ?_)
      · have hf := kIfF c9 hf
        refine lv_aload_n hx hb dX3_turnRound_39 rfl (lv_at hl 0 rfl) ?_
        refine va_get (D := D) (ci := 3) (v := .ref a5) (C := RX3) (T := TX3) (N := 4) hx hb hts hinX3 hown hK.1 hP 0 rfl rfl 2 (by decide) hfl22 (fun _ h9 => h9) rfl dX3_turnRound_40 ?_
        refine lv_aload_n hx hb dX3_turnRound_43 rfl (lv_at hl 0 rfl) ?_
        refine va_get (D := D) (ci := 3) (v := .ref a1) (C := RX3) (T := TX3) (N := 4) hx hb hts hinX3 hown hK.1 hP 0 rfl rfl 0 (by decide) hfl10 (fun _ h9 => h9) rfl dX3_turnRound_44 ?_
        obtain ⟨v10, h11, hf⟩ := kBind hf
        refine kgoJ (wr := [(a0, .inr (3, [.ref a1, .ref a3, .ref a5, .ref a7])), (a3, .inr (1, [.ref a4])), (a4, .inl (cI, 132, .inl R2)), (a7, .inr (2, [.ref a8, .int LN, .int PS, .ref a9, .ref a10, .ref a11, .int CM])), (a8, .inl (cI, 80, .inl TB)), (a9, .inl (cI, 20, .inl TC)), (a10, .inl (cI, 20, .inl TW)), (a11, .inl (cI, 20, .inl TG))]) (w2 := (wX3 cI a0 a1 a2 a3 a4 a5 a6 a7 a8 a9 a10 a11 R R2 v10.1 v10.2.1 v10.2.2 TB LN PS TC TW TG CM)) (krunV (wc := (wX0_X1 cI a5 a6 a1 a2 HR HS HN R)) (As := [.ref a1]) (rest := []) (ci := 0) hx hb hml hown hts hK (kX0_keep l D cI a5 a6 a1 a2 HR HS HN R v10 h11) gX3_turnRound_X0_keep rfl rfl rfl hdX0_keep ⟨Nat.le_of_ble_eq_true rfl, Nat.le_of_ble_eq_true rfl⟩ (hP.sub [5, 6, 1, 2] rfl) (hD.sub [5, 6, 1, 2] (by decide) rfl) rfl rfl rfl rfl hl.1 rfl (Nat.le_of_ble_eq_true rfl) dX3_turnRound_47 ⟨Nat.zero_le _, Nat.zero_le _⟩) hP hD hS hA [5, 6, 1, 2] [0, 3, 4, 7, 8, 9, 10, 11] [0, 10, 11, 1, 2, 8, 9, 3, 4, 5, 6, 7] rfl rfl (by decide) (by decide) (by decide) rfl (fun H locs hP hD hS => ?_)
        refine lv_aload_n hx hb dX3_turnRound_50 rfl (lv_at hl 0 rfl) ?_
        refine va_get (D := D) (ci := 3) (v := .ref a1) (C := RX3) (T := TX3) (N := 4) hx hb hts hinX3 hown hK.1 hP 0 rfl rfl 0 (by decide) hfl10 (fun _ h9 => h9) rfl dX3_turnRound_51 ?_
        refine lv_iload_n hx hb dX3_turnRound_54 rfl (lv_at hl 1 rfl) ?_
        obtain ⟨v12, h13, hf⟩ := kBind hf
        refine kgoJ (wr := [(a0, .inr (3, [.ref a1, .ref a3, .ref a5, .ref a7])), (a3, .inr (1, [.ref a4])), (a4, .inl (cI, 132, .inl R2)), (a5, .inr (0, [.ref a6, .int v10.2.1, .int v10.2.2])), (a6, .inl (cI, 660, .inl v10.1)), (a7, .inr (2, [.ref a8, .int LN, .int PS, .ref a9, .ref a10, .ref a11, .int CM])), (a8, .inl (cI, 80, .inl TB)), (a9, .inl (cI, 20, .inl TC)), (a10, .inl (cI, 20, .inl TW)), (a11, .inl (cI, 20, .inl TG))]) (w2 := (wX3 cI a0 a1 a2 a3 a4 a5 a6 a7 a8 a9 a10 a11 v12.2 R2 v10.1 v10.2.1 v10.2.2 TB LN PS TC TW TG CM)) (krunV (wc := (wX1 cI a1 a2 R)) (As := [.int x1]) (rest := []) (ci := 1) hx hb hml hown hts hK (kX1_changeWay l D cI a1 a2 R x1 v12 h13) gX3_turnRound_X1_changeWay rfl rfl rfl hdX1_changeWay ⟨Nat.le_of_ble_eq_true rfl, Nat.le_of_ble_eq_true rfl⟩ (hP.sub [1, 2] rfl) (hD.sub [1, 2] (by decide) rfl) rfl rfl rfl rfl hl.1 rfl (Nat.le_of_ble_eq_true rfl) dX3_turnRound_55 ⟨Nat.zero_le _, Nat.zero_le _⟩) hP hD hS hA [1, 2] [0, 3, 4, 5, 6, 7, 8, 9, 10, 11] [0, 10, 11, 1, 2, 3, 4, 5, 6, 7, 8, 9] rfl rfl (by decide) (by decide) (by decide) rfl (fun H locs hP hD hS => ?_)
        have he := Option.some.inj hf
        subst he
        exact kreti hx hb hr hlk hP hD hS dX3_turnRound_58
      · have hf := kIfT c9 hf
        refine lv_bipush (v := (-103 : Int32)) hx hb dX3_turnRound_36 (by decide) ?_
        have he := Option.some.inj hf
        subst he
        exact kreti hx hb hr hlk hP hD hS dX3_turnRound_38
  · have hf := kIfF c3 hf
    refine lv_bipush (v := (-101 : Int32)) hx hb dX3_turnRound_11 (by decide) ?_
    have he := Option.some.inj hf
    subst he
    exact kreti hx hb hr hlk hP hD hS dX3_turnRound_13
set_option maxHeartbeats 4000000 in
set_option maxRecDepth 100000 in
theorem kX3_type (l : Launch) (D : va_G) (cI : ClassId) (a0 a1 a2 a3 a4 a5 a6 a7 a8 a9 a10 a11 : Nat) (R : (Nat → Int32)) (R2 : (Nat → Int32)) (HR : (Nat → Int32)) (HS : Int32) (HN : Int32) (TB : (Nat → Int32)) (LN : Int32) (PS : Int32) (TC : (Nat → Int32)) (TW : (Nat → Int32)) (TG : (Nat → Int32)) (CM : Int32) (x1 : Int32) (o : Int32 × (Nat → Int32) × Int32) (hf : fX3_type TB LN x1 = some o) : Ct l yX3_type wsX3_type { frames := 1, cells := 0, slots := 0, locals := 21 } D cI [.ref a0, .int x1] (wX3 cI a0 a1 a2 a3 a4 a5 a6 a7 a8 a9 a10 a11 R R2 HR HS HN TB LN PS TC TW TG CM) (wX3 cI a0 a1 a2 a3 a4 a5 a6 a7 a8 a9 a10 a11 R R2 HR HS HN o.2.1 o.2.2 PS TC TW TG CM) (some (.int o.1)) := by
  refine Ct.of (cc := cX3_type) (maxL := 2) (ret := (some .int)) (by decide) rfl (Nat.le_of_ble_eq_true rfl) ?_
  intro p e s m args below meth c A F hP hD hS ls hl
  obtain ⟨hx, hb, hml, hr, hown, hts, hlk, hK, hA⟩ := F
  have hown : s.vm.findClass RX3 = some m.cls := hown
  have hl : lv_has ls 2 [(0, .ref a0), (1, .int x1)] := hl
  have hinX3 : ∀ w ∈ wsX30, w ∈ wsX3_type := by decide +kernel
  have hfl29 := hts (.fieldLink RX3 29 "CraneGuard" "text" "LCraneGuard$Text;") (by decide +kernel)
  unfold fX3_type at hf
  refine lv_iload_n hx hb dX3_type_0 rfl (lv_at hl 1 rfl) ?_
  refine lv_if_lt (tgt := 11) hx hb dX3_type_1 (by decide) (fun c1 => ?_) (fun c1 => ?_)
  · have hf := kIfT c1 hf
    refine lv_bipush (v := (-102 : Int32)) hx hb dX3_type_11 (by decide) ?_
    have he := Option.some.inj hf
    subst he
    exact kreti hx hb hr hlk hP hD hS dX3_type_13
  · have hf := kIfF c1 hf
    refine lv_iload_n hx hb dX3_type_4 rfl (lv_at hl 1 rfl) ?_
    refine lv_sipush (v := (255 : Int32)) hx hb dX3_type_5 (by decide) ?_
    refine lv_icmp_le (tgt := 14) hx hb dX3_type_8 (by decide) (fun c2 => ?_) (fun c2 => ?_)
    · have hf := kIfT c2 hf
      refine lv_aload_n hx hb dX3_type_14 rfl (lv_at hl 0 rfl) ?_
      refine va_get (D := D) (ci := 3) (v := .ref a7) (C := RX3) (T := TX3) (N := 4) hx hb hts hinX3 hown hK.1 hP 0 rfl rfl 3 (by decide) hfl29 (fun _ h9 => h9) rfl dX3_type_15 ?_
      obtain ⟨v3, h4, hf⟩ := kBind hf
      refine kgoR (krunV (wc := (wX2 cI a7 a8 a9 a10 a11 TB LN PS TC TW TG CM)) (As := []) (rest := []) (ci := 2) hx hb hml hown hts hK (kX2_isFull l D cI a7 a8 a9 a10 a11 TB LN PS TC TW TG CM v3 h4) gX3_type_X2_isFull rfl rfl rfl hdX2_isFull ⟨Nat.le_of_ble_eq_true rfl, Nat.le_of_ble_eq_true rfl⟩ (hP.sub [7, 8, 9, 10, 11] rfl) (hD.sub [7, 8, 9, 10, 11] (by decide) rfl) rfl rfl rfl rfl hl.1 rfl (Nat.le_of_ble_eq_true rfl) dX3_type_18 ⟨Nat.zero_le _, Nat.zero_le _⟩) hP hD hS hA [7, 8, 9, 10, 11] rfl (fun H locs hP hS => ?_)
      refine kif_eqb (tgt := 27) hx hb dX3_type_21 (by decide) (fun c5 => ?_) (fun c5 => ?_)
      · have hf := kIfF c5 hf
        refine lv_aload_n hx hb dX3_type_27 rfl (lv_at hl 0 rfl) ?_
        refine va_get (D := D) (ci := 3) (v := .ref a7) (C := RX3) (T := TX3) (N := 4) hx hb hts hinX3 hown hK.1 hP 0 rfl rfl 3 (by decide) hfl29 (fun _ h9 => h9) rfl dX3_type_28 ?_
        refine lv_iload_n hx hb dX3_type_31 rfl (lv_at hl 1 rfl) ?_
        obtain ⟨v6, h7, hf⟩ := kBind hf
        refine kgoJ (wr := [(a0, .inr (3, [.ref a1, .ref a3, .ref a5, .ref a7])), (a1, .inr (1, [.ref a2])), (a2, .inl (cI, 132, .inl R)), (a3, .inr (1, [.ref a4])), (a4, .inl (cI, 132, .inl R2)), (a5, .inr (0, [.ref a6, .int HS, .int HN])), (a6, .inl (cI, 660, .inl HR))]) (w2 := (wX3 cI a0 a1 a2 a3 a4 a5 a6 a7 a8 a9 a10 a11 R R2 HR HS HN v6.2.1 v6.2.2 PS TC TW TG CM)) (krunV (wc := (wX2 cI a7 a8 a9 a10 a11 TB LN PS TC TW TG CM)) (As := [.int x1]) (rest := []) (ci := 2) hx hb hml hown hts hK (kX2_append l D cI a7 a8 a9 a10 a11 TB LN PS TC TW TG CM x1 v6 h7) gX3_type_X2_append rfl rfl rfl hdX2_append ⟨Nat.le_of_ble_eq_true rfl, Nat.le_of_ble_eq_true rfl⟩ (hP.sub [7, 8, 9, 10, 11] rfl) (hD.sub [7, 8, 9, 10, 11] (by decide) rfl) rfl rfl rfl rfl hl.1 rfl (Nat.le_of_ble_eq_true rfl) dX3_type_32 ⟨Nat.zero_le _, Nat.zero_le _⟩) hP hD hS hA [7, 8, 9, 10, 11] [0, 1, 2, 3, 4, 5, 6] [0, 1, 2, 3, 4, 5, 6, 7, 8, 9, 10, 11] rfl rfl (by decide) (by decide) (by decide) rfl (fun H locs hP hD hS => ?_)
        have he := Option.some.inj hf
        subst he
        exact kreti hx hb hr hlk hP hD hS dX3_type_35
      · have hf := kIfT c5 hf
        refine lv_bipush (v := (-104 : Int32)) hx hb dX3_type_24 (by decide) ?_
        have he := Option.some.inj hf
        subst he
        exact kreti hx hb hr hlk hP hD hS dX3_type_26
    · have hf := kIfF c2 hf
      refine lv_bipush (v := (-102 : Int32)) hx hb dX3_type_11 (by decide) ?_
      have he := Option.some.inj hf
      subst he
      exact kreti hx hb hr hlk hP hD hS dX3_type_13
set_option maxHeartbeats 4000000 in
set_option maxRecDepth 100000 in
theorem kX3_undo (l : Launch) (D : va_G) (cI : ClassId) (a0 a1 a2 a3 a4 a5 a6 a7 a8 a9 a10 a11 : Nat) (R : (Nat → Int32)) (R2 : (Nat → Int32)) (HR : (Nat → Int32)) (HS : Int32) (HN : Int32) (TB : (Nat → Int32)) (LN : Int32) (PS : Int32) (TC : (Nat → Int32)) (TW : (Nat → Int32)) (TG : (Nat → Int32)) (CM : Int32) (o : Int32 × (Nat → Int32) × Int32 × Int32) (hf : fX3_undo R HR HS HN = some o) : Ct l yX3_undo wsX3_undo { frames := 3, cells := 0, slots := 0, locals := 61 } D cI [.ref a0] (wX3 cI a0 a1 a2 a3 a4 a5 a6 a7 a8 a9 a10 a11 R R2 HR HS HN TB LN PS TC TW TG CM) (wX3 cI a0 a1 a2 a3 a4 a5 a6 a7 a8 a9 a10 a11 o.2.1 R2 HR o.2.2.1 o.2.2.2 TB LN PS TC TW TG CM) (some (.int o.1)) := by
  refine Ct.of (cc := cX3_undo) (maxL := 1) (ret := (some .int)) (by decide) rfl (Nat.le_of_ble_eq_true rfl) ?_
  intro p e s m args below meth c A F hP hD hS ls hl
  obtain ⟨hx, hb, hml, hr, hown, hts, hlk, hK, hA⟩ := F
  have hown : s.vm.findClass RX3 = some m.cls := hown
  have hl : lv_has ls 1 [(0, .ref a0)] := hl
  have hinX3 : ∀ w ∈ wsX30, w ∈ wsX3_undo := by decide +kernel
  have hfl10 := hts (.fieldLink RX3 10 "CraneGuard" "site" "LCraneGuard$Site;") (by decide +kernel)
  have hfl22 := hts (.fieldLink RX3 22 "CraneGuard" "history" "LCraneGuard$History;") (by decide +kernel)
  unfold fX3_undo at hf
  refine lv_aload_n hx hb dX3_undo_0 rfl (lv_at hl 0 rfl) ?_
  refine va_get (D := D) (ci := 3) (v := .ref a5) (C := RX3) (T := TX3) (N := 4) hx hb hts hinX3 hown hK.1 hP 0 rfl rfl 2 (by decide) hfl22 (fun _ h9 => h9) rfl dX3_undo_1 ?_
  obtain ⟨v1, h2, hf⟩ := kBind hf
  refine kgoR (krunV (wc := (wX0 cI a5 a6 HR HS HN)) (As := []) (rest := []) (ci := 0) hx hb hml hown hts hK (kX0_isEmpty l D cI a5 a6 HR HS HN v1 h2) gX3_undo_X0_isEmpty rfl rfl rfl hdX0_isEmpty ⟨Nat.le_of_ble_eq_true rfl, Nat.le_of_ble_eq_true rfl⟩ (hP.sub [5, 6] rfl) (hD.sub [5, 6] (by decide) rfl) rfl rfl rfl rfl hl.1 rfl (Nat.le_of_ble_eq_true rfl) dX3_undo_4 ⟨Nat.zero_le _, Nat.zero_le _⟩) hP hD hS hA [5, 6] rfl (fun H locs hP hS => ?_)
  refine kif_eqb (tgt := 13) hx hb dX3_undo_7 (by decide) (fun c3 => ?_) (fun c3 => ?_)
  · have hf := kIfF c3 hf
    refine lv_aload_n hx hb dX3_undo_13 rfl (lv_at hl 0 rfl) ?_
    refine va_get (D := D) (ci := 3) (v := .ref a5) (C := RX3) (T := TX3) (N := 4) hx hb hts hinX3 hown hK.1 hP 0 rfl rfl 2 (by decide) hfl22 (fun _ h9 => h9) rfl dX3_undo_14 ?_
    refine lv_aload_n hx hb dX3_undo_17 rfl (lv_at hl 0 rfl) ?_
    refine va_get (D := D) (ci := 3) (v := .ref a1) (C := RX3) (T := TX3) (N := 4) hx hb hts hinX3 hown hK.1 hP 0 rfl rfl 0 (by decide) hfl10 (fun _ h9 => h9) rfl dX3_undo_18 ?_
    obtain ⟨v4, h5, hf⟩ := kBind hf
    refine kgoJ (wr := [(a0, .inr (3, [.ref a1, .ref a3, .ref a5, .ref a7])), (a3, .inr (1, [.ref a4])), (a4, .inl (cI, 132, .inl R2)), (a7, .inr (2, [.ref a8, .int LN, .int PS, .ref a9, .ref a10, .ref a11, .int CM])), (a8, .inl (cI, 80, .inl TB)), (a9, .inl (cI, 20, .inl TC)), (a10, .inl (cI, 20, .inl TW)), (a11, .inl (cI, 20, .inl TG))]) (w2 := (wX3 cI a0 a1 a2 a3 a4 a5 a6 a7 a8 a9 a10 a11 v4.2.2.2 R2 HR v4.2.1 v4.2.2.1 TB LN PS TC TW TG CM)) (krunV (wc := (wX0_X1 cI a5 a6 a1 a2 HR HS HN R)) (As := [.ref a1]) (rest := []) (ci := 0) hx hb hml hown hts hK (kX0_restore l D cI a5 a6 a1 a2 HR HS HN R v4 h5) gX3_undo_X0_restore rfl rfl rfl hdX0_restore ⟨Nat.le_of_ble_eq_true rfl, Nat.le_of_ble_eq_true rfl⟩ (hP.sub [5, 6, 1, 2] rfl) (hD.sub [5, 6, 1, 2] (by decide) rfl) rfl rfl rfl rfl hl.1 rfl (Nat.le_of_ble_eq_true rfl) dX3_undo_21 ⟨Nat.zero_le _, Nat.zero_le _⟩) hP hD hS hA [5, 6, 1, 2] [0, 3, 4, 7, 8, 9, 10, 11] [0, 10, 11, 1, 2, 8, 9, 3, 4, 5, 6, 7] rfl rfl (by decide) (by decide) (by decide) rfl (fun H locs hP hD hS => ?_)
    have he := Option.some.inj hf
    subst he
    exact kreti hx hb hr hlk hP hD hS dX3_undo_24
  · have hf := kIfT c3 hf
    refine lv_bipush (v := (-103 : Int32)) hx hb dX3_undo_10 (by decide) ?_
    have he := Option.some.inj hf
    subst he
    exact kreti hx hb hr hlk hP hD hS dX3_undo_12
set_option maxHeartbeats 4000000 in
set_option maxRecDepth 100000 in
theorem kX3_waits (l : Launch) (D : va_G) (cI : ClassId) (fu : Nat) (a0 a1 a2 a3 a4 a5 a6 a7 a8 a9 a10 a11 : Nat) (R : (Nat → Int32)) (R2 : (Nat → Int32)) (HR : (Nat → Int32)) (HS : Int32) (HN : Int32) (TB : (Nat → Int32)) (LN : Int32) (PS : Int32) (TC : (Nat → Int32)) (TW : (Nat → Int32)) (TG : (Nat → Int32)) (CM : Int32) (x1 : Int32) (x2 : Int32) (o : Int32 × (Nat → Int32)) (hf : fX3_waits fu R R2 x1 x2 = some o) : Ct l yX3_waits wsX3_waits { frames := 6, cells := 0, slots := 0, locals := 140 } D cI [.ref a0, .int x1, .int x2] (wX3 cI a0 a1 a2 a3 a4 a5 a6 a7 a8 a9 a10 a11 R R2 HR HS HN TB LN PS TC TW TG CM) (wX3 cI a0 a1 a2 a3 a4 a5 a6 a7 a8 a9 a10 a11 R o.2 HR HS HN TB LN PS TC TW TG CM) (some (.int o.1)) := by
  refine Ct.of (cc := cX3_waits) (maxL := 3) (ret := (some .int)) (by decide) rfl (Nat.le_of_ble_eq_true rfl) ?_
  intro p e s m args below meth c A F hP hD hS ls hl
  obtain ⟨hx, hb, hml, hr, hown, hts, hlk, hK, hA⟩ := F
  have hown : s.vm.findClass RX3 = some m.cls := hown
  have hl : lv_has ls 3 [(0, .ref a0), (1, .int x1), (2, .int x2)] := hl
  have hinX3 : ∀ w ∈ wsX30, w ∈ wsX3_waits := by decide +kernel
  have hfl10 := hts (.fieldLink RX3 10 "CraneGuard" "site" "LCraneGuard$Site;") (by decide +kernel)
  unfold fX3_waits at hf
  refine lv_aload_n hx hb dX3_waits_0 rfl (lv_at hl 0 rfl) ?_
  refine va_get (D := D) (ci := 3) (v := .ref a1) (C := RX3) (T := TX3) (N := 4) hx hb hts hinX3 hown hK.1 hP 0 rfl rfl 0 (by decide) hfl10 (fun _ h9 => h9) rfl dX3_waits_1 ?_
  refine lv_iload_n hx hb dX3_waits_4 rfl (lv_at hl 1 rfl) ?_
  obtain ⟨v1, h2, hf⟩ := kBind hf
  refine kgoR (krunV (wc := (wX1 cI a1 a2 R)) (As := [.int x1]) (rest := []) (ci := 1) hx hb hml hown hts hK (kX1_hasCrane l D cI a1 a2 R x1 v1 h2) gX3_waits_X1_hasCrane rfl rfl rfl hdX1_hasCrane ⟨Nat.le_of_ble_eq_true rfl, Nat.le_of_ble_eq_true rfl⟩ (hP.sub [1, 2] rfl) (hD.sub [1, 2] (by decide) rfl) rfl rfl rfl rfl hl.1 rfl (Nat.le_of_ble_eq_true rfl) dX3_waits_5 ⟨Nat.zero_le _, Nat.zero_le _⟩) hP hD hS hA [1, 2] rfl (fun H locs hP hS => ?_)
  refine kif_neb (tgt := 14) hx hb dX3_waits_8 (by decide) (fun c3 => ?_) (fun c3 => ?_)
  · have hf := kIfT c3 hf
    refine lv_iload_n hx hb dX3_waits_14 rfl (lv_at hl 2 rfl) ?_
    refine lv_iconst (v := (1 : Int32)) hx hb dX3_waits_15 (by decide) ?_
    refine lv_icmp_lt (tgt := 26) hx hb dX3_waits_16 (by decide) (fun c4 => ?_) (fun c4 => ?_)
    · have hf := kIfT c4 hf
      refine lv_bipush (v := (-102 : Int32)) hx hb dX3_waits_26 (by decide) ?_
      have he := Option.some.inj hf
      subst he
      exact kreti hx hb hr hlk hP hD hS dX3_waits_28
    · have hf := kIfF c4 hf
      refine lv_iload_n hx hb dX3_waits_19 rfl (lv_at hl 2 rfl) ?_
      refine lv_sipush (v := (1000 : Int32)) hx hb dX3_waits_20 (by decide) ?_
      refine lv_icmp_le (tgt := 29) hx hb dX3_waits_23 (by decide) (fun c5 => ?_) (fun c5 => ?_)
      · have hf := kIfT c5 hf
        refine lv_aload_n hx hb dX3_waits_29 rfl (lv_at hl 0 rfl) ?_
        refine lv_iload_n hx hb dX3_waits_30 rfl (lv_at hl 1 rfl) ?_
        refine lv_iload_n hx hb dX3_waits_31 rfl (lv_at hl 2 rfl) ?_
        obtain ⟨v6, h7, hf⟩ := kBind hf
        refine kgoA (krunV (wc := (wX3 cI a0 a1 a2 a3 a4 a5 a6 a7 a8 a9 a10 a11 R R2 HR HS HN TB LN PS TC TW TG CM)) (As := [.int x1, .int x2]) (rest := []) (ci := 3) hx hb hml hown hts hK (kX3_foretoldWaits l D cI fu a0 a1 a2 a3 a4 a5 a6 a7 a8 a9 a10 a11 R R2 HR HS HN TB LN PS TC TW TG CM x1 x2 v6 h7) gX3_waits_X3_foretoldWaits rfl rfl rfl hdX3_foretoldWaits ⟨Nat.le_of_ble_eq_true rfl, Nat.le_of_ble_eq_true rfl⟩ hP hD rfl rfl rfl rfl hl.1 rfl (Nat.le_of_ble_eq_true rfl) dX3_waits_32 ⟨Nat.zero_le _, Nat.zero_le _⟩) hD hS hA (fun H locs hP hD hS => ?_)
        have he := Option.some.inj hf
        subst he
        exact kreti hx hb hr hlk hP hD hS dX3_waits_35
      · have hf := kIfF c5 hf
        refine lv_bipush (v := (-102 : Int32)) hx hb dX3_waits_26 (by decide) ?_
        have he := Option.some.inj hf
        subst he
        exact kreti hx hb hr hlk hP hD hS dX3_waits_28
  · have hf := kIfF c3 hf
    refine lv_bipush (v := (-101 : Int32)) hx hb dX3_waits_11 (by decide) ?_
    have he := Option.some.inj hf
    subst he
    exact kreti hx hb hr hlk hP hD hS dX3_waits_13
set_option maxHeartbeats 4000000 in
set_option maxRecDepth 100000 in
theorem kX4_in (l : Launch) (D : va_G) (cI : ClassId) (x0 : Int32) (x1 : Int32) (x2 : Int32) (o : Bool) (hf : fX4_in x0 x1 x2 = some o) : Ct l yX4_in wsX4_in { frames := 0, cells := 0, slots := 0, locals := 0 } D cI [.int x0, .int x1, .int x2] ([] : va_W) ([] : va_W) (some (.int (bI o))) := by
  refine Ct.of (cc := cX4_in) (maxL := 3) (ret := (some .boolean)) (by decide) rfl (Nat.le_of_ble_eq_true rfl) ?_
  intro p e s m args below meth c A F hP hD hS ls hl
  obtain ⟨hx, hb, hml, hr, hown, hts, hlk, hK, hA⟩ := F
  have hown : s.vm.findClass RX4 = some m.cls := hown
  have hl : lv_has ls 3 [(0, .int x0), (1, .int x1), (2, .int x2)] := hl
  unfold fX4_in at hf
  refine lv_iload_n hx hb dX4_in_0 rfl (lv_at hl 0 rfl) ?_
  refine lv_iload_n hx hb dX4_in_1 rfl (lv_at hl 1 rfl) ?_
  refine lv_icmp_lt (tgt := 14) hx hb dX4_in_2 (by decide) (fun c1 => ?_) (fun c1 => ?_)
  · have hf := kIfT c1 hf
    refine lv_iconst (v := (0 : Int32)) hx hb dX4_in_14 (by decide) ?_
    have he := Option.some.inj hf
    subst he
    exact kretz hx hb hr hlk hP hD hS dX4_in_15
  · have hf := kIfF c1 hf
    refine lv_iload_n hx hb dX4_in_5 rfl (lv_at hl 0 rfl) ?_
    refine lv_iload_n hx hb dX4_in_6 rfl (lv_at hl 2 rfl) ?_
    refine lv_icmp_gt (tgt := 14) hx hb dX4_in_7 (by decide) (fun c2 => ?_) (fun c2 => ?_)
    · have hf := kIfT c2 hf
      refine lv_iconst (v := (0 : Int32)) hx hb dX4_in_14 (by decide) ?_
      have he := Option.some.inj hf
      subst he
      exact kretz hx hb hr hlk hP hD hS dX4_in_15
    · have hf := kIfF c2 hf
      refine lv_iconst (v := (1 : Int32)) hx hb dX4_in_10 (by decide) ?_
      refine lv_goto (tgt := 15) hx hb dX4_in_11 (by decide) ?_
      have he := Option.some.inj hf
      subst he
      exact kretz hx hb hr hlk hP hD hS dX4_in_15
set_option maxHeartbeats 4000000 in
set_option maxRecDepth 100000 in
theorem kX4_isAngle (l : Launch) (D : va_G) (cI : ClassId) (x0 : Int32) (o : Bool) (hf : fX4_isAngle x0 = some o) : Ct l yX4_isAngle wsX4_isAngle { frames := 1, cells := 0, slots := 0, locals := 22 } D cI [.int x0] ([] : va_W) ([] : va_W) (some (.int (bI o))) := by
  refine Ct.of (cc := cX4_isAngle) (maxL := 1) (ret := (some .boolean)) (by decide) rfl (Nat.le_of_ble_eq_true rfl) ?_
  intro p e s m args below meth c A F hP hD hS ls hl
  obtain ⟨hx, hb, hml, hr, hown, hts, hlk, hK, hA⟩ := F
  have hown : s.vm.findClass RX4 = some m.cls := hown
  have hl : lv_has ls 1 [(0, .int x0)] := hl
  unfold fX4_isAngle at hf
  refine lv_iload_n hx hb dX4_isAngle_0 rfl (lv_at hl 0 rfl) ?_
  refine lv_iconst (v := (0 : Int32)) hx hb dX4_isAngle_1 (by decide) ?_
  refine lv_bipush (v := (35 : Int32)) hx hb dX4_isAngle_2 (by decide) ?_
  obtain ⟨v1, h2, hf⟩ := kBind hf
  refine kgoR (krunS (wc := ([] : va_W)) (As := [.int x0, .int (0 : Int32), .int (35 : Int32)]) (rest := []) hx hb hml hown hts hK (kX4_in l D cI x0 (0 : Int32) (35 : Int32) v1 h2) gX4_isAngle_X4_in rfl rfl rfl hdX4_in ⟨Nat.le_of_ble_eq_true rfl, Nat.le_of_ble_eq_true rfl⟩ k_P0 (k_D0 A) rfl hl.1 rfl (Nat.le_of_ble_eq_true rfl) dX4_isAngle_4 ⟨Nat.zero_le _, Nat.zero_le _⟩) hP hD hS hA [] rfl (fun H locs hP hS => ?_)
  have he := Option.some.inj hf
  subst he
  exact kretz hx hb hr hlk hP hD hS dX4_isAngle_7
set_option maxHeartbeats 4000000 in
set_option maxRecDepth 100000 in
theorem kX4_copies (l : Launch) (D : va_G) (cI : ClassId) (fu : Nat) (a0 a1 a2 : Nat) (M : (Nat → Int32)) (SV : Int32) (MX : (Nat → Int32)) (ML : Int32) (MA : Int32) (MH : Int64) (x1 : Int32) (x2 : Int32) (o : (Nat → Int32)) (hf : fX4_copies fu M x1 x2 = some o) : Ct l yX4_copies wsX4_copies { frames := 0, cells := 0, slots := 0, locals := 0 } D cI [.ref a0, .int x1, .int x2] (wX4 cI a0 a1 a2 M SV MX ML MA MH) (wX4 cI a0 a1 a2 o SV MX ML MA MH) none := by
  refine Ct.of (cc := cX4_copies) (maxL := 4) (ret := none) (by decide) rfl (Nat.le_of_ble_eq_true rfl) ?_
  intro p e s m args below meth c A F hP hD hS ls hl
  obtain ⟨hx, hb, hml, hr, hown, hts, hlk, hK, hA⟩ := F
  have hown : s.vm.findClass RX4 = some m.cls := hown
  have hl : lv_has ls 4 [(0, .ref a0), (1, .int x1), (2, .int x2)] := hl
  have hinX4 : ∀ w ∈ wsX40, w ∈ wsX4_copies := by decide +kernel
  have hfl7 := hts (.fieldLink RX4 7 "CraneGuardModel" "row" "[I") (by decide +kernel)
  unfold fX4_copies at hf
  refine lv_iconst (v := (0 : Int32)) hx hb dX4_copies_0 (by decide) ?_
  refine lv_istore_n (lv' := [(3, .int (0 : Int32)), (0, .ref a0), (1, .int x1), (2, .int x2)]) hx hb dX4_copies_1 rfl hl (by decide) rfl (fun ls hl => ?_)
  have hl : lv_has ls 4 [(3, .int (0 : Int32)), (0, .ref a0), (1, .int x1), (2, .int x2)] := hl
  refine klp hf (fun t2 : (Nat → Int32) × Int32 => (wX4 cI a0 a1 a2 t2.1 SV MX ML MA MH)) 4 (fun t2 : (Nat → Int32) × Int32 => [(3, .int t2.2), (0, .ref a0), (1, .int x1), (2, .int x2)]) ?_ hP hD hS hl
  intro t2 x2_ hf hI1 hO1 H locs ls hP hD hS hl
  unfold fX4_copies_L2 at hf
  have hP : va_P D vwCl (wX4 cI a0 a1 a2 t2.1 SV MX ML MA MH) H := hP
  have hD : va_D A (wX4 cI a0 a1 a2 t2.1 SV MX ML MA MH) := hD
  have hl : lv_has ls 4 [(3, .int t2.2), (0, .ref a0), (1, .int x1), (2, .int x2)] := hl
  refine lv_iload_n hx hb dX4_copies_2 rfl (lv_at hl 0 rfl) ?_
  refine lv_sipush (v := (128 : Int32)) hx hb dX4_copies_3 (by decide) ?_
  refine lv_icmp_ge (tgt := 39) hx hb dX4_copies_6 (by decide) (fun c7 => ?_) (fun c7 => ?_)
  · have hf := kIfT c7 hf
    have he := Option.some.inj hf
    have he := hO1 _ he.symm
    subst he
    exact kretv hx hb hr hlk hP hD hS dX4_copies_39
  · have hf := kIfF c7 hf
    refine lv_aload_n hx hb dX4_copies_9 rfl (lv_at hl 1 rfl) ?_
    refine va_get (D := D) (ci := 4) (v := .ref a1) (C := RX4) (T := TX4) (N := 6) hx hb hts hinX4 hown hK.1 hP 0 rfl rfl 0 (by decide) hfl7 (fun _ h9 => h9) rfl dX4_copies_10 ?_
    refine lv_sipush (v := (128 : Int32)) hx hb dX4_copies_13 (by decide) ?_
    refine lv_iload_n hx hb dX4_copies_16 rfl (lv_at hl 3 rfl) ?_
    refine lv_imul hx hb dX4_copies_17 ?_
    refine lv_iload_n hx hb dX4_copies_18 rfl (lv_at hl 0 rfl) ?_
    refine lv_iadd hx hb dX4_copies_19 ?_
    refine lv_aload_n hx hb dX4_copies_20 rfl (lv_at hl 1 rfl) ?_
    refine va_get (D := D) (ci := 4) (v := .ref a1) (C := RX4) (T := TX4) (N := 6) hx hb hts hinX4 hown hK.1 hP 0 rfl rfl 0 (by decide) hfl7 (fun _ h9 => h9) rfl dX4_copies_21 ?_
    refine lv_sipush (v := (128 : Int32)) hx hb dX4_copies_24 (by decide) ?_
    refine lv_iload_n hx hb dX4_copies_27 rfl (lv_at hl 2 rfl) ?_
    refine lv_imul hx hb dX4_copies_28 ?_
    refine lv_iload_n hx hb dX4_copies_29 rfl (lv_at hl 0 rfl) ?_
    refine lv_iadd hx hb dX4_copies_30 ?_
    obtain ⟨v8, h9, hf⟩ := kBind hf
    refine krd hx hb hK hP 1 rfl h9 dX4_copies_31 ?_
    obtain ⟨v10, h11, hf⟩ := kBind hf
    refine kwr hx hb hK hP hD hS 1 rfl h11 (wX4 cI a0 a1 a2 v10 SV MX ML MA MH) rfl dX4_copies_32 (fun H locs hP hD hS => ?_)
    refine lv_iinc (v := t2.2 + (1 : Int32)) (lv' := [(3, .int (t2.2 + (1 : Int32))), (0, .ref a0), (1, .int x1), (2, .int x2)]) hx hb dX4_copies_33 hl (k := 0) rfl rfl (by decide) rfl (fun ls hl => ?_)
    refine lv_goto (tgt := 2) hx hb dX4_copies_36 (by decide) ?_
    obtain ⟨z12, hz12⟩ : ∃ z : Int32, z = t2.2 + (1 : Int32) := ⟨_, rfl⟩
    rw [← hz12] at hf
    have he := (Option.some.inj hf).symm
    have hl : lv_has ls 4 [(3, .int z12), (0, .ref a0), (1, .int x1), (2, .int x2)] := by rw [hz12]; exact lv_sub hl [0, 1, 2, 3] rfl
    exact hI1 _ he H locs ls hP hD hS hl
set_option maxHeartbeats 4000000 in
set_option maxRecDepth 100000 in
theorem kX4_saves (l : Launch) (D : va_G) (cI : ClassId) (fu : Nat) (a0 a1 a2 : Nat) (M : (Nat → Int32)) (SV : Int32) (MX : (Nat → Int32)) (ML : Int32) (MA : Int32) (MH : Int64) (o : (Nat → Int32) × Int32) (hf : fX4_saves fu M SV = some o) : Ct l yX4_saves wsX4_saves { frames := 1, cells := 0, slots := 0, locals := 23 } D cI [.ref a0] (wX4 cI a0 a1 a2 M SV MX ML MA MH) (wX4 cI a0 a1 a2 o.1 o.2 MX ML MA MH) none := by
  refine Ct.of (cc := cX4_saves) (maxL := 2) (ret := none) (by decide) rfl (Nat.le_of_ble_eq_true rfl) ?_
  intro p e s m args below meth c A F hP hD hS ls hl
  obtain ⟨hx, hb, hml, hr, hown, hts, hlk, hK, hA⟩ := F
  have hown : s.vm.findClass RX4 = some m.cls := hown
  have hl : lv_has ls 2 [(0, .ref a0)] := hl
  have hinX4 : ∀ w ∈ wsX40, w ∈ wsX4_saves := by decide +kernel
  have hfl16 := hts (.fieldLink RX4 16 "CraneGuardModel" "saved" "I") (by decide +kernel)
  unfold fX4_saves at hf
  refine lv_iconst (v := (1 : Int32)) hx hb dX4_saves_0 (by decide) ?_
  refine lv_istore_n (lv' := [(1, .int (1 : Int32)), (0, .ref a0)]) hx hb dX4_saves_1 rfl hl (by decide) rfl (fun ls hl => ?_)
  have hl : lv_has ls 2 [(1, .int (1 : Int32)), (0, .ref a0)] := hl
  refine klp hf (fun t2 : (Nat → Int32) × Int32 => (wX4 cI a0 a1 a2 t2.1 SV MX ML MA MH)) 2 (fun t2 : (Nat → Int32) × Int32 => [(1, .int t2.2), (0, .ref a0)]) ?_ hP hD hS hl
  intro t2 x2_ hf hI1 hO1 H locs ls hP hD hS hl
  unfold fX4_saves_L2 at hf
  have hP : va_P D vwCl (wX4 cI a0 a1 a2 t2.1 SV MX ML MA MH) H := hP
  have hD : va_D A (wX4 cI a0 a1 a2 t2.1 SV MX ML MA MH) := hD
  have hl : lv_has ls 2 [(1, .int t2.2), (0, .ref a0)] := hl
  refine lv_iload_n hx hb dX4_saves_2 rfl (lv_at hl 0 rfl) ?_
  refine lv_iconst (v := (5 : Int32)) hx hb dX4_saves_3 (by decide) ?_
  refine lv_icmp_ge (tgt := 29) hx hb dX4_saves_4 (by decide) (fun c20 => ?_) (fun c20 => ?_)
  · have hf := kIfT c20 hf
    refine lv_aload_n hx hb dX4_saves_29 rfl (lv_at hl 1 rfl) ?_
    refine lv_dup hx hb dX4_saves_30 rfl ?_
    refine va_get (D := D) (ci := 4) (v := .int SV) (C := RX4) (T := TX4) (N := 6) hx hb hts hinX4 hown hK.1 hP 0 rfl rfl 1 (by decide) hfl16 (fun _ h9 => h9) rfl dX4_saves_31 ?_
    refine lv_aload_n hx hb dX4_saves_34 rfl (lv_at hl 1 rfl) ?_
    refine va_get (D := D) (ci := 4) (v := .int SV) (C := RX4) (T := TX4) (N := 6) hx hb hts hinX4 hown hK.1 hP 0 rfl rfl 1 (by decide) hfl16 (fun _ h9 => h9) rfl dX4_saves_35 ?_
    refine lv_iconst (v := (5 : Int32)) hx hb dX4_saves_38 (by decide) ?_
    refine lv_icmp_ne (tgt := 46) hx hb dX4_saves_39 (by decide) (fun c21 => ?_) (fun c21 => ?_)
    · have hf := kIfF c21 hf
      refine lv_iconst (v := (0 : Int32)) hx hb dX4_saves_46 (by decide) ?_
      refine lv_isub hx hb dX4_saves_47 ?_
      refine va_put (D := D) (ci := 4) (v := .int (SV - (0 : Int32))) (ty := .int) (C := RX4) (T := TX4) (N := 6) hx hb hts hinX4 tyX4 tyX4_ok nmX4 hown hK.1 hP hD hS 0 rfl rfl 1 (by decide) hfl16 (fun _ h9 => h9) rfl (by decide +kernel) rfl rfl (Nat.le_of_ble_eq_true rfl) dX4_saves_48 (fun H locs hP hD hS => ?_)
      have hP : va_P D vwCl (wX4 cI a0 a1 a2 t2.1 (SV - (0 : Int32)) MX ML MA MH) H := hP
      have hD : va_D A (wX4 cI a0 a1 a2 t2.1 (SV - (0 : Int32)) MX ML MA MH) := hD
      refine lv_aload_n hx hb dX4_saves_51 rfl (lv_at hl 1 rfl) ?_
      refine lv_dup hx hb dX4_saves_52 rfl ?_
      refine va_get (D := D) (ci := 4) (v := .int (SV - (0 : Int32))) (C := RX4) (T := TX4) (N := 6) hx hb hts hinX4 hown hK.1 hP 0 rfl rfl 1 (by decide) hfl16 (fun _ h9 => h9) rfl dX4_saves_53 ?_
      refine lv_iconst (v := (1 : Int32)) hx hb dX4_saves_56 (by decide) ?_
      refine lv_iadd hx hb dX4_saves_57 ?_
      refine va_put (D := D) (ci := 4) (v := .int ((SV - (0 : Int32)) + (1 : Int32))) (ty := .int) (C := RX4) (T := TX4) (N := 6) hx hb hts hinX4 tyX4 tyX4_ok nmX4 hown hK.1 hP hD hS 0 rfl rfl 1 (by decide) hfl16 (fun _ h9 => h9) rfl (by decide +kernel) rfl rfl (Nat.le_of_ble_eq_true rfl) dX4_saves_58 (fun H locs hP hD hS => ?_)
      have hP : va_P D vwCl (wX4 cI a0 a1 a2 t2.1 ((SV - (0 : Int32)) + (1 : Int32)) MX ML MA MH) H := hP
      have hD : va_D A (wX4 cI a0 a1 a2 t2.1 ((SV - (0 : Int32)) + (1 : Int32)) MX ML MA MH) := hD
      refine lv_aload_n hx hb dX4_saves_61 rfl (lv_at hl 1 rfl) ?_
      refine lv_iconst (v := (0 : Int32)) hx hb dX4_saves_62 (by decide) ?_
      refine lv_aload_n hx hb dX4_saves_63 rfl (lv_at hl 1 rfl) ?_
      refine va_get (D := D) (ci := 4) (v := .int ((SV - (0 : Int32)) + (1 : Int32))) (C := RX4) (T := TX4) (N := 6) hx hb hts hinX4 hown hK.1 hP 0 rfl rfl 1 (by decide) hfl16 (fun _ h9 => h9) rfl dX4_saves_64 ?_
      obtain ⟨v22, h23, hf⟩ := kBind hf
      refine kgoA (krunV (wc := (wX4 cI a0 a1 a2 t2.1 ((SV - (0 : Int32)) + (1 : Int32)) MX ML MA MH)) (As := [.int (0 : Int32), .int ((SV - (0 : Int32)) + (1 : Int32))]) (rest := []) (ci := 4) hx hb hml hown hts hK (kX4_copies l D cI fu a0 a1 a2 t2.1 ((SV - (0 : Int32)) + (1 : Int32)) MX ML MA MH (0 : Int32) ((SV - (0 : Int32)) + (1 : Int32)) v22 h23) gX4_saves_X4_copies rfl rfl rfl hdX4_copies ⟨Nat.le_of_ble_eq_true rfl, Nat.le_of_ble_eq_true rfl⟩ hP hD rfl rfl rfl rfl hl.1 rfl (Nat.le_of_ble_eq_true rfl) dX4_saves_67 ⟨Nat.zero_le _, Nat.zero_le _⟩) hD hS hA (fun H locs hP hD hS => ?_)
      obtain ⟨z24, hz24⟩ : ∃ z : Int32, z = (SV - (0 : Int32)) + (1 : Int32) := ⟨_, rfl⟩
      rw [← hz24] at hf
      have hP : va_P D vwCl (wX4 cI a0 a1 a2 v22 z24 MX ML MA MH) H := by rw [hz24]; exact hP
      have hD : va_D A (wX4 cI a0 a1 a2 v22 z24 MX ML MA MH) := by rw [hz24]; exact hD
      have he := Option.some.inj hf
      have he := hO1 _ he.symm
      subst he
      exact kretv hx hb hr hlk hP hD hS dX4_saves_70
    · have hf := kIfT c21 hf
      refine lv_iconst (v := (1 : Int32)) hx hb dX4_saves_42 (by decide) ?_
      refine lv_goto (tgt := 47) hx hb dX4_saves_43 (by decide) ?_
      refine lv_isub hx hb dX4_saves_47 ?_
      refine va_put (D := D) (ci := 4) (v := .int (SV - (1 : Int32))) (ty := .int) (C := RX4) (T := TX4) (N := 6) hx hb hts hinX4 tyX4 tyX4_ok nmX4 hown hK.1 hP hD hS 0 rfl rfl 1 (by decide) hfl16 (fun _ h9 => h9) rfl (by decide +kernel) rfl rfl (Nat.le_of_ble_eq_true rfl) dX4_saves_48 (fun H locs hP hD hS => ?_)
      have hP : va_P D vwCl (wX4 cI a0 a1 a2 t2.1 (SV - (1 : Int32)) MX ML MA MH) H := hP
      have hD : va_D A (wX4 cI a0 a1 a2 t2.1 (SV - (1 : Int32)) MX ML MA MH) := hD
      refine lv_aload_n hx hb dX4_saves_51 rfl (lv_at hl 1 rfl) ?_
      refine lv_dup hx hb dX4_saves_52 rfl ?_
      refine va_get (D := D) (ci := 4) (v := .int (SV - (1 : Int32))) (C := RX4) (T := TX4) (N := 6) hx hb hts hinX4 hown hK.1 hP 0 rfl rfl 1 (by decide) hfl16 (fun _ h9 => h9) rfl dX4_saves_53 ?_
      refine lv_iconst (v := (1 : Int32)) hx hb dX4_saves_56 (by decide) ?_
      refine lv_iadd hx hb dX4_saves_57 ?_
      refine va_put (D := D) (ci := 4) (v := .int ((SV - (1 : Int32)) + (1 : Int32))) (ty := .int) (C := RX4) (T := TX4) (N := 6) hx hb hts hinX4 tyX4 tyX4_ok nmX4 hown hK.1 hP hD hS 0 rfl rfl 1 (by decide) hfl16 (fun _ h9 => h9) rfl (by decide +kernel) rfl rfl (Nat.le_of_ble_eq_true rfl) dX4_saves_58 (fun H locs hP hD hS => ?_)
      have hP : va_P D vwCl (wX4 cI a0 a1 a2 t2.1 ((SV - (1 : Int32)) + (1 : Int32)) MX ML MA MH) H := hP
      have hD : va_D A (wX4 cI a0 a1 a2 t2.1 ((SV - (1 : Int32)) + (1 : Int32)) MX ML MA MH) := hD
      refine lv_aload_n hx hb dX4_saves_61 rfl (lv_at hl 1 rfl) ?_
      refine lv_iconst (v := (0 : Int32)) hx hb dX4_saves_62 (by decide) ?_
      refine lv_aload_n hx hb dX4_saves_63 rfl (lv_at hl 1 rfl) ?_
      refine va_get (D := D) (ci := 4) (v := .int ((SV - (1 : Int32)) + (1 : Int32))) (C := RX4) (T := TX4) (N := 6) hx hb hts hinX4 hown hK.1 hP 0 rfl rfl 1 (by decide) hfl16 (fun _ h9 => h9) rfl dX4_saves_64 ?_
      obtain ⟨v25, h26, hf⟩ := kBind hf
      refine kgoA (krunV (wc := (wX4 cI a0 a1 a2 t2.1 ((SV - (1 : Int32)) + (1 : Int32)) MX ML MA MH)) (As := [.int (0 : Int32), .int ((SV - (1 : Int32)) + (1 : Int32))]) (rest := []) (ci := 4) hx hb hml hown hts hK (kX4_copies l D cI fu a0 a1 a2 t2.1 ((SV - (1 : Int32)) + (1 : Int32)) MX ML MA MH (0 : Int32) ((SV - (1 : Int32)) + (1 : Int32)) v25 h26) gX4_saves_X4_copies rfl rfl rfl hdX4_copies ⟨Nat.le_of_ble_eq_true rfl, Nat.le_of_ble_eq_true rfl⟩ hP hD rfl rfl rfl rfl hl.1 rfl (Nat.le_of_ble_eq_true rfl) dX4_saves_67 ⟨Nat.zero_le _, Nat.zero_le _⟩) hD hS hA (fun H locs hP hD hS => ?_)
      obtain ⟨z27, hz27⟩ : ∃ z : Int32, z = (SV - (1 : Int32)) + (1 : Int32) := ⟨_, rfl⟩
      rw [← hz27] at hf
      have hP : va_P D vwCl (wX4 cI a0 a1 a2 v25 z27 MX ML MA MH) H := by rw [hz27]; exact hP
      have hD : va_D A (wX4 cI a0 a1 a2 v25 z27 MX ML MA MH) := by rw [hz27]; exact hD
      have he := Option.some.inj hf
      have he := hO1 _ he.symm
      subst he
      exact kretv hx hb hr hlk hP hD hS dX4_saves_70
  · have hf := kIfF c20 hf
    refine lv_aload_n hx hb dX4_saves_7 rfl (lv_at hl 1 rfl) ?_
    refine va_get (D := D) (ci := 4) (v := .int SV) (C := RX4) (T := TX4) (N := 6) hx hb hts hinX4 hown hK.1 hP 0 rfl rfl 1 (by decide) hfl16 (fun _ h9 => h9) rfl dX4_saves_8 ?_
    refine lv_iconst (v := (5 : Int32)) hx hb dX4_saves_11 (by decide) ?_
    refine lv_icmp_ne (tgt := 29) hx hb dX4_saves_12 (by decide) (fun c28 => ?_) (fun c28 => ?_)
    · have hf := kIfF c28 hf
      refine lv_aload_n hx hb dX4_saves_29 rfl (lv_at hl 1 rfl) ?_
      refine lv_dup hx hb dX4_saves_30 rfl ?_
      refine va_get (D := D) (ci := 4) (v := .int SV) (C := RX4) (T := TX4) (N := 6) hx hb hts hinX4 hown hK.1 hP 0 rfl rfl 1 (by decide) hfl16 (fun _ h9 => h9) rfl dX4_saves_31 ?_
      refine lv_aload_n hx hb dX4_saves_34 rfl (lv_at hl 1 rfl) ?_
      refine va_get (D := D) (ci := 4) (v := .int SV) (C := RX4) (T := TX4) (N := 6) hx hb hts hinX4 hown hK.1 hP 0 rfl rfl 1 (by decide) hfl16 (fun _ h9 => h9) rfl dX4_saves_35 ?_
      refine lv_iconst (v := (5 : Int32)) hx hb dX4_saves_38 (by decide) ?_
      refine lv_icmp_ne (tgt := 46) hx hb dX4_saves_39 (by decide) (fun c29 => ?_) (fun c29 => ?_)
      · have hf := kIfF c29 hf
        refine lv_iconst (v := (0 : Int32)) hx hb dX4_saves_46 (by decide) ?_
        refine lv_isub hx hb dX4_saves_47 ?_
        refine va_put (D := D) (ci := 4) (v := .int (SV - (0 : Int32))) (ty := .int) (C := RX4) (T := TX4) (N := 6) hx hb hts hinX4 tyX4 tyX4_ok nmX4 hown hK.1 hP hD hS 0 rfl rfl 1 (by decide) hfl16 (fun _ h9 => h9) rfl (by decide +kernel) rfl rfl (Nat.le_of_ble_eq_true rfl) dX4_saves_48 (fun H locs hP hD hS => ?_)
        have hP : va_P D vwCl (wX4 cI a0 a1 a2 t2.1 (SV - (0 : Int32)) MX ML MA MH) H := hP
        have hD : va_D A (wX4 cI a0 a1 a2 t2.1 (SV - (0 : Int32)) MX ML MA MH) := hD
        refine lv_aload_n hx hb dX4_saves_51 rfl (lv_at hl 1 rfl) ?_
        refine lv_dup hx hb dX4_saves_52 rfl ?_
        refine va_get (D := D) (ci := 4) (v := .int (SV - (0 : Int32))) (C := RX4) (T := TX4) (N := 6) hx hb hts hinX4 hown hK.1 hP 0 rfl rfl 1 (by decide) hfl16 (fun _ h9 => h9) rfl dX4_saves_53 ?_
        refine lv_iconst (v := (1 : Int32)) hx hb dX4_saves_56 (by decide) ?_
        refine lv_iadd hx hb dX4_saves_57 ?_
        refine va_put (D := D) (ci := 4) (v := .int ((SV - (0 : Int32)) + (1 : Int32))) (ty := .int) (C := RX4) (T := TX4) (N := 6) hx hb hts hinX4 tyX4 tyX4_ok nmX4 hown hK.1 hP hD hS 0 rfl rfl 1 (by decide) hfl16 (fun _ h9 => h9) rfl (by decide +kernel) rfl rfl (Nat.le_of_ble_eq_true rfl) dX4_saves_58 (fun H locs hP hD hS => ?_)
        have hP : va_P D vwCl (wX4 cI a0 a1 a2 t2.1 ((SV - (0 : Int32)) + (1 : Int32)) MX ML MA MH) H := hP
        have hD : va_D A (wX4 cI a0 a1 a2 t2.1 ((SV - (0 : Int32)) + (1 : Int32)) MX ML MA MH) := hD
        refine lv_aload_n hx hb dX4_saves_61 rfl (lv_at hl 1 rfl) ?_
        refine lv_iconst (v := (0 : Int32)) hx hb dX4_saves_62 (by decide) ?_
        refine lv_aload_n hx hb dX4_saves_63 rfl (lv_at hl 1 rfl) ?_
        refine va_get (D := D) (ci := 4) (v := .int ((SV - (0 : Int32)) + (1 : Int32))) (C := RX4) (T := TX4) (N := 6) hx hb hts hinX4 hown hK.1 hP 0 rfl rfl 1 (by decide) hfl16 (fun _ h9 => h9) rfl dX4_saves_64 ?_
        obtain ⟨v30, h31, hf⟩ := kBind hf
        refine kgoA (krunV (wc := (wX4 cI a0 a1 a2 t2.1 ((SV - (0 : Int32)) + (1 : Int32)) MX ML MA MH)) (As := [.int (0 : Int32), .int ((SV - (0 : Int32)) + (1 : Int32))]) (rest := []) (ci := 4) hx hb hml hown hts hK (kX4_copies l D cI fu a0 a1 a2 t2.1 ((SV - (0 : Int32)) + (1 : Int32)) MX ML MA MH (0 : Int32) ((SV - (0 : Int32)) + (1 : Int32)) v30 h31) gX4_saves_X4_copies rfl rfl rfl hdX4_copies ⟨Nat.le_of_ble_eq_true rfl, Nat.le_of_ble_eq_true rfl⟩ hP hD rfl rfl rfl rfl hl.1 rfl (Nat.le_of_ble_eq_true rfl) dX4_saves_67 ⟨Nat.zero_le _, Nat.zero_le _⟩) hD hS hA (fun H locs hP hD hS => ?_)
        obtain ⟨z32, hz32⟩ : ∃ z : Int32, z = (SV - (0 : Int32)) + (1 : Int32) := ⟨_, rfl⟩
        rw [← hz32] at hf
        have hP : va_P D vwCl (wX4 cI a0 a1 a2 v30 z32 MX ML MA MH) H := by rw [hz32]; exact hP
        have hD : va_D A (wX4 cI a0 a1 a2 v30 z32 MX ML MA MH) := by rw [hz32]; exact hD
        have he := Option.some.inj hf
        have he := hO1 _ he.symm
        subst he
        exact kretv hx hb hr hlk hP hD hS dX4_saves_70
      · have hf := kIfT c29 hf
        refine lv_iconst (v := (1 : Int32)) hx hb dX4_saves_42 (by decide) ?_
        refine lv_goto (tgt := 47) hx hb dX4_saves_43 (by decide) ?_
        refine lv_isub hx hb dX4_saves_47 ?_
        refine va_put (D := D) (ci := 4) (v := .int (SV - (1 : Int32))) (ty := .int) (C := RX4) (T := TX4) (N := 6) hx hb hts hinX4 tyX4 tyX4_ok nmX4 hown hK.1 hP hD hS 0 rfl rfl 1 (by decide) hfl16 (fun _ h9 => h9) rfl (by decide +kernel) rfl rfl (Nat.le_of_ble_eq_true rfl) dX4_saves_48 (fun H locs hP hD hS => ?_)
        have hP : va_P D vwCl (wX4 cI a0 a1 a2 t2.1 (SV - (1 : Int32)) MX ML MA MH) H := hP
        have hD : va_D A (wX4 cI a0 a1 a2 t2.1 (SV - (1 : Int32)) MX ML MA MH) := hD
        refine lv_aload_n hx hb dX4_saves_51 rfl (lv_at hl 1 rfl) ?_
        refine lv_dup hx hb dX4_saves_52 rfl ?_
        refine va_get (D := D) (ci := 4) (v := .int (SV - (1 : Int32))) (C := RX4) (T := TX4) (N := 6) hx hb hts hinX4 hown hK.1 hP 0 rfl rfl 1 (by decide) hfl16 (fun _ h9 => h9) rfl dX4_saves_53 ?_
        refine lv_iconst (v := (1 : Int32)) hx hb dX4_saves_56 (by decide) ?_
        refine lv_iadd hx hb dX4_saves_57 ?_
        refine va_put (D := D) (ci := 4) (v := .int ((SV - (1 : Int32)) + (1 : Int32))) (ty := .int) (C := RX4) (T := TX4) (N := 6) hx hb hts hinX4 tyX4 tyX4_ok nmX4 hown hK.1 hP hD hS 0 rfl rfl 1 (by decide) hfl16 (fun _ h9 => h9) rfl (by decide +kernel) rfl rfl (Nat.le_of_ble_eq_true rfl) dX4_saves_58 (fun H locs hP hD hS => ?_)
        have hP : va_P D vwCl (wX4 cI a0 a1 a2 t2.1 ((SV - (1 : Int32)) + (1 : Int32)) MX ML MA MH) H := hP
        have hD : va_D A (wX4 cI a0 a1 a2 t2.1 ((SV - (1 : Int32)) + (1 : Int32)) MX ML MA MH) := hD
        refine lv_aload_n hx hb dX4_saves_61 rfl (lv_at hl 1 rfl) ?_
        refine lv_iconst (v := (0 : Int32)) hx hb dX4_saves_62 (by decide) ?_
        refine lv_aload_n hx hb dX4_saves_63 rfl (lv_at hl 1 rfl) ?_
        refine va_get (D := D) (ci := 4) (v := .int ((SV - (1 : Int32)) + (1 : Int32))) (C := RX4) (T := TX4) (N := 6) hx hb hts hinX4 hown hK.1 hP 0 rfl rfl 1 (by decide) hfl16 (fun _ h9 => h9) rfl dX4_saves_64 ?_
        obtain ⟨v33, h34, hf⟩ := kBind hf
        refine kgoA (krunV (wc := (wX4 cI a0 a1 a2 t2.1 ((SV - (1 : Int32)) + (1 : Int32)) MX ML MA MH)) (As := [.int (0 : Int32), .int ((SV - (1 : Int32)) + (1 : Int32))]) (rest := []) (ci := 4) hx hb hml hown hts hK (kX4_copies l D cI fu a0 a1 a2 t2.1 ((SV - (1 : Int32)) + (1 : Int32)) MX ML MA MH (0 : Int32) ((SV - (1 : Int32)) + (1 : Int32)) v33 h34) gX4_saves_X4_copies rfl rfl rfl hdX4_copies ⟨Nat.le_of_ble_eq_true rfl, Nat.le_of_ble_eq_true rfl⟩ hP hD rfl rfl rfl rfl hl.1 rfl (Nat.le_of_ble_eq_true rfl) dX4_saves_67 ⟨Nat.zero_le _, Nat.zero_le _⟩) hD hS hA (fun H locs hP hD hS => ?_)
        obtain ⟨z35, hz35⟩ : ∃ z : Int32, z = (SV - (1 : Int32)) + (1 : Int32) := ⟨_, rfl⟩
        rw [← hz35] at hf
        have hP : va_P D vwCl (wX4 cI a0 a1 a2 v33 z35 MX ML MA MH) H := by rw [hz35]; exact hP
        have hD : va_D A (wX4 cI a0 a1 a2 v33 z35 MX ML MA MH) := by rw [hz35]; exact hD
        have he := Option.some.inj hf
        have he := hO1 _ he.symm
        subst he
        exact kretv hx hb hr hlk hP hD hS dX4_saves_70
    · have hf := kIfT c28 hf
      refine lv_aload_n hx hb dX4_saves_15 rfl (lv_at hl 1 rfl) ?_
      refine lv_iload_n hx hb dX4_saves_16 rfl (lv_at hl 0 rfl) ?_
      refine lv_iconst (v := (1 : Int32)) hx hb dX4_saves_17 (by decide) ?_
      refine lv_iadd hx hb dX4_saves_18 ?_
      refine lv_iload_n hx hb dX4_saves_19 rfl (lv_at hl 0 rfl) ?_
      obtain ⟨v36, h37, hf⟩ := kBind hf
      refine kgoA (krunV (wc := (wX4 cI a0 a1 a2 t2.1 SV MX ML MA MH)) (As := [.int (t2.2 + (1 : Int32)), .int t2.2]) (rest := []) (ci := 4) hx hb hml hown hts hK (kX4_copies l D cI fu a0 a1 a2 t2.1 SV MX ML MA MH (t2.2 + (1 : Int32)) t2.2 v36 h37) gX4_saves_X4_copies rfl rfl rfl hdX4_copies ⟨Nat.le_of_ble_eq_true rfl, Nat.le_of_ble_eq_true rfl⟩ hP hD rfl rfl rfl rfl hl.1 rfl (Nat.le_of_ble_eq_true rfl) dX4_saves_20 ⟨Nat.zero_le _, Nat.zero_le _⟩) hD hS hA (fun H locs hP hD hS => ?_)
      refine lv_iinc (v := t2.2 + (1 : Int32)) (lv' := [(1, .int (t2.2 + (1 : Int32))), (0, .ref a0)]) hx hb dX4_saves_23 hl (k := 0) rfl rfl (by decide) rfl (fun ls hl => ?_)
      refine lv_goto (tgt := 2) hx hb dX4_saves_26 (by decide) ?_
      obtain ⟨z38, hz38⟩ : ∃ z : Int32, z = t2.2 + (1 : Int32) := ⟨_, rfl⟩
      rw [← hz38] at hf
      have he := (Option.some.inj hf).symm
      have hl : lv_has ls 2 [(1, .int z38), (0, .ref a0)] := by rw [hz38]; exact lv_sub hl [0, 1] rfl
      exact hI1 _ he H locs ls hP hD hS hl
