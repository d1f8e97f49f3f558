set_option maxHeartbeats 4000000 in
set_option maxRecDepth 100000 in
theorem kX3_stepsClockwise (l : Launch) (D : va_G) (cI : ClassId) (x0 : Int32) (x1 : Int32) (o : Int32) (hf : fX3_stepsClockwise x0 x1 = some o) : Ct l yX3_stepsClockwise wsX3_stepsClockwise { frames := 0, cells := 0, slots := 0, locals := 0 } D cI [.int x0, .int x1] ([] : va_W) ([] : va_W) (some (.int o)) := by
  refine Ct.of (cc := cX3_stepsClockwise) (maxL := 2) (ret := (some .int)) (by decide) rfl (Nat.le_of_ble_eq_true rfl) ?_
  intro p e s m args below meth c A F hP hD hS ls hl
  obtain ⟨hx, hb, hml, hr, hown, hts, hlk, hK, hA⟩ := F
  have hown : s.vm.findClass RX3 = some m.cls := hown
  have hl : lv_has ls 2 [(0, .int x0), (1, .int x1)] := hl
  unfold fX3_stepsClockwise at hf
  refine lv_iload_n hx hb dX3_stepsClockwise_0 rfl (lv_at hl 1 rfl) ?_
  refine lv_iload_n hx hb dX3_stepsClockwise_1 rfl (lv_at hl 0 rfl) ?_
  refine lv_isub hx hb dX3_stepsClockwise_2 ?_
  refine lv_bipush (v := (36 : Int32)) hx hb dX3_stepsClockwise_3 (by decide) ?_
  refine lv_iadd hx hb dX3_stepsClockwise_5 ?_
  refine lv_bipush (v := (36 : Int32)) hx hb dX3_stepsClockwise_6 (by decide) ?_
  refine kirem hx hb dX3_stepsClockwise_8 (by decide) ?_
  obtain ⟨z2, hz2⟩ : ∃ z : Int32, z = jrem ((x1 - x0) + (36 : Int32)) (36 : Int32) := ⟨_, rfl⟩
  rw [← hz2] at hf
  rw [← hz2]
  have he := Option.some.inj hf
  subst he
  exact kreti hx hb hr hlk hP hD hS dX3_stepsClockwise_9
set_option maxHeartbeats 4000000 in
set_option maxRecDepth 100000 in
theorem kX3_setArc (l : Launch) (D : va_G) (cI : ClassId) (fu : Nat) (a0 a1 a2 a3 a4 a5 a6 a7 a8 a9 a10 a11 : Nat) (R : (Nat → Int32)) (R2 : (Nat → Int32)) (HR : (Nat → Int32)) (HS : Int32) (HN : Int32) (TB : (Nat → Int32)) (LN : Int32) (PS : Int32) (TC : (Nat → Int32)) (TW : (Nat → Int32)) (TG : (Nat → Int32)) (CM : Int32) (x1 : Int32) (x2 : Int32) (x3 : Int32) (x4 : Int32) (o : Int32 × (Nat → Int32) × (Nat → Int32) × (Nat → Int32) × Int32 × Int32) (hf : fX3_setArc fu R R2 HR HS HN x1 x2 x3 x4 = some o) : Ct l yX3_setArc wsX3_setArc { frames := 5, cells := 0, slots := 0, locals := 116 } D cI [.ref a0, .int x1, .int x2, .int x3, .int x4] (wX3 cI a0 a1 a2 a3 a4 a5 a6 a7 a8 a9 a10 a11 R R2 HR HS HN TB LN PS TC TW TG CM) (wX3 cI a0 a1 a2 a3 a4 a5 a6 a7 a8 a9 a10 a11 o.2.1 o.2.2.1 o.2.2.2.1 o.2.2.2.2.1 o.2.2.2.2.2 TB LN PS TC TW TG CM) (some (.int o.1)) := by
  refine Ct.of (cc := cX3_setArc) (maxL := 5) (ret := (some .int)) (by decide) rfl (Nat.le_of_ble_eq_true rfl) ?_
  intro p e s m args below meth c A F hP hD hS ls hl
  obtain ⟨hx, hb, hml, hr, hown, hts, hlk, hK, hA⟩ := F
  have hown : s.vm.findClass RX3 = some m.cls := hown
  have hl : lv_has ls 5 [(0, .ref a0), (1, .int x1), (2, .int x2), (3, .int x3), (4, .int x4)] := hl
  have hinX3 : ∀ w ∈ wsX30, w ∈ wsX3_setArc := by decide +kernel
  have hfl10 := hts (.fieldLink RX3 10 "CraneGuard" "site" "LCraneGuard$Site;") (by decide +kernel)
  have hfl22 := hts (.fieldLink RX3 22 "CraneGuard" "history" "LCraneGuard$History;") (by decide +kernel)
  unfold fX3_setArc at hf
  refine lv_aload_n hx hb dX3_setArc_0 rfl (lv_at hl 0 rfl) ?_
  refine va_get (D := D) (ci := 3) (v := .ref a1) (C := RX3) (T := TX3) (N := 4) hx hb hts hinX3 hown hK.1 hP 0 rfl rfl 0 (by decide) hfl10 (fun _ h9 => h9) rfl dX3_setArc_1 ?_
  refine lv_iload_n hx hb dX3_setArc_4 rfl (lv_at hl 1 rfl) ?_
  obtain ⟨v26, h27, hf⟩ := kBind hf
  refine kgoR (krunV (wc := (wX1 cI a1 a2 R)) (As := [.int x1]) (rest := []) (ci := 1) hx hb hml hown hts hK (kX1_hasCrane l D cI a1 a2 R x1 v26 h27) gX3_setArc_X1_hasCrane rfl rfl rfl hdX1_hasCrane ⟨Nat.le_of_ble_eq_true rfl, Nat.le_of_ble_eq_true rfl⟩ (hP.sub [1, 2] rfl) (hD.sub [1, 2] (by decide) rfl) rfl rfl rfl rfl hl.1 rfl (Nat.le_of_ble_eq_true rfl) dX3_setArc_5 ⟨Nat.zero_le _, Nat.zero_le _⟩) hP hD hS hA [1, 2] rfl (fun H locs hP hS => ?_)
  refine kif_eqb (tgt := 18) hx hb dX3_setArc_8 (by decide) (fun c28 => ?_) (fun c28 => ?_)
  · have hf := kIfF c28 hf
    refine lv_bipush (v := (-101 : Int32)) hx hb dX3_setArc_18 (by decide) ?_
    have he := Option.some.inj hf
    subst he
    exact kreti hx hb hr hlk hP hD hS dX3_setArc_20
  · have hf := kIfT c28 hf
    refine lv_iload_n hx hb dX3_setArc_11 rfl (lv_at hl 2 rfl) ?_
    obtain ⟨v29, h30, hf⟩ := kBind hf
    refine kgoR (krunS (wc := ([] : va_W)) (As := [.int x2]) (rest := []) hx hb hml hown hts hK (kX3_isZone l D cI x2 v29 h30) gX3_setArc_X3_isZone rfl rfl rfl hdX3_isZone ⟨Nat.le_of_ble_eq_true rfl, Nat.le_of_ble_eq_true rfl⟩ k_P0 (k_D0 A) rfl hl.1 rfl (Nat.le_of_ble_eq_true rfl) dX3_setArc_12 ⟨Nat.zero_le _, Nat.zero_le _⟩) hP hD hS hA [] rfl (fun H locs hP hS => ?_)
    refine kif_neb (tgt := 21) hx hb dX3_setArc_15 (by decide) (fun c31 => ?_) (fun c31 => ?_)
    · have hf := kIfT c31 hf
      refine lv_iload_n hx hb dX3_setArc_21 rfl (lv_at hl 3 rfl) ?_
      obtain ⟨v32, h33, hf⟩ := kBind hf
      refine kgoR (krunS (wc := ([] : va_W)) (As := [.int x3]) (rest := []) hx hb hml hown hts hK (kX3_isAngle l D cI x3 v32 h33) gX3_setArc_X3_isAngle rfl rfl rfl hdX3_isAngle ⟨Nat.le_of_ble_eq_true rfl, Nat.le_of_ble_eq_true rfl⟩ k_P0 (k_D0 A) rfl hl.1 rfl (Nat.le_of_ble_eq_true rfl) dX3_setArc_22 ⟨Nat.zero_le _, Nat.zero_le _⟩) hP hD hS hA [] rfl (fun H locs hP hS => ?_)
      refine kif_eqb (tgt := 36) hx hb dX3_setArc_25 (by decide) (fun c34 => ?_) (fun c34 => ?_)
      · have hf := kIfF c34 hf
        refine lv_bipush (v := (-102 : Int32)) hx hb dX3_setArc_36 (by decide) ?_
        have he := Option.some.inj hf
        subst he
        exact kreti hx hb hr hlk hP hD hS dX3_setArc_38
      · have hf := kIfT c34 hf
        refine lv_iload hx hb dX3_setArc_28 (lv_at hl 4 rfl) ?_
        obtain ⟨v35, h36, hf⟩ := kBind hf
        refine kgoR (krunS (wc := ([] : va_W)) (As := [.int x4]) (rest := []) hx hb hml hown hts hK (kX3_isAngle l D cI x4 v35 h36) gX3_setArc_X3_isAngle rfl rfl rfl hdX3_isAngle ⟨Nat.le_of_ble_eq_true rfl, Nat.le_of_ble_eq_true rfl⟩ k_P0 (k_D0 A) rfl hl.1 rfl (Nat.le_of_ble_eq_true rfl) dX3_setArc_30 ⟨Nat.zero_le _, Nat.zero_le _⟩) hP hD hS hA [] rfl (fun H locs hP hS => ?_)
        refine kif_neb (tgt := 39) hx hb dX3_setArc_33 (by decide) (fun c37 => ?_) (fun c37 => ?_)
        · have hf := kIfT c37 hf
          refine lv_aload_n hx hb dX3_setArc_39 rfl (lv_at hl 0 rfl) ?_
          refine va_get (D := D) (ci := 3) (v := .ref a1) (C := RX3) (T := TX3) (N := 4) hx hb hts hinX3 hown hK.1 hP 0 rfl rfl 0 (by decide) hfl10 (fun _ h9 => h9) rfl dX3_setArc_40 ?_
          refine lv_iload_n hx hb dX3_setArc_43 rfl (lv_at hl 1 rfl) ?_
          obtain ⟨v38, h39, hf⟩ := kBind hf
          refine kgoR (krunV (wc := (wX1 cI a1 a2 R)) (As := [.int x1]) (rest := []) (ci := 1) hx hb hml hown hts hK (kX1_isLeft l D cI a1 a2 R x1 v38 h39) gX3_setArc_X1_isLeft rfl rfl rfl hdX1_isLeft ⟨Nat.le_of_ble_eq_true rfl, Nat.le_of_ble_eq_true rfl⟩ (hP.sub [1, 2] rfl) (hD.sub [1, 2] (by decide) rfl) rfl rfl rfl rfl hl.1 rfl (Nat.le_of_ble_eq_true rfl) dX3_setArc_44 ⟨Nat.zero_le _, Nat.zero_le _⟩) hP hD hS hA [1, 2] rfl (fun H locs hP hS => ?_)
          refine kif_neb (tgt := 62) hx hb dX3_setArc_47 (by decide) (fun c40 => ?_) (fun c40 => ?_)
          · have hf := kIfT c40 hf
            refine lv_bipush (v := (-103 : Int32)) hx hb dX3_setArc_62 (by decide) ?_
            have he := Option.some.inj hf
            subst he
            exact kreti hx hb hr hlk hP hD hS dX3_setArc_64
          · have hf := kIfF c40 hf
            refine lv_aload_n hx hb dX3_setArc_50 rfl (lv_at hl 0 rfl) ?_
            refine lv_iload_n hx hb dX3_setArc_51 rfl (lv_at hl 1 rfl) ?_
            refine lv_iload_n hx hb dX3_setArc_52 rfl (lv_at hl 2 rfl) ?_
            refine lv_iload_n hx hb dX3_setArc_53 rfl (lv_at hl 3 rfl) ?_
            refine lv_iload hx hb dX3_setArc_54 (lv_at hl 4 rfl) ?_
            obtain ⟨v41, h42, hf⟩ := kBind hf
            refine kgoA (krunV (wc := (wX3 cI a0 a1 a2 a3 a4 a5 a6 a7 a8 a9 a10 a11 R R2 HR HS HN TB LN PS TC TW TG CM)) (As := [.int x1, .int x2, .int x3, .int x4]) (rest := []) (ci := 3) hx hb hml hown hts hK (kX3_wouldMakeConflict l D cI fu a0 a1 a2 a3 a4 a5 a6 a7 a8 a9 a10 a11 R R2 HR HS HN TB LN PS TC TW TG CM x1 x2 x3 x4 v41 h42) gX3_setArc_X3_wouldMakeConflict rfl rfl rfl hdX3_wouldMakeConflict ⟨Nat.le_of_ble_eq_true rfl, Nat.le_of_ble_eq_true rfl⟩ hP hD rfl rfl rfl rfl hl.1 rfl (Nat.le_of_ble_eq_true rfl) dX3_setArc_56 ⟨Nat.zero_le _, Nat.zero_le _⟩) hD hS hA (fun H locs hP hD hS => ?_)
            refine kif_eqb (tgt := 65) hx hb dX3_setArc_59 (by decide) (fun c43 => ?_) (fun c43 => ?_)
            · have hf := kIfF c43 hf
              refine lv_aload_n hx hb dX3_setArc_65 rfl (lv_at hl 0 rfl) ?_
              refine va_get (D := D) (ci := 3) (v := .ref a5) (C := RX3) (T := TX3) (N := 4) hx hb hts hinX3 hown hK.1 hP 0 rfl rfl 2 (by decide) hfl22 (fun _ h9 => h9) rfl dX3_setArc_66 ?_
              refine lv_aload_n hx hb dX3_setArc_69 rfl (lv_at hl 0 rfl) ?_
              refine va_get (D := D) (ci := 3) (v := .ref a1) (C := RX3) (T := TX3) (N := 4) hx hb hts hinX3 hown hK.1 hP 0 rfl rfl 0 (by decide) hfl10 (fun _ h9 => h9) rfl dX3_setArc_70 ?_
              obtain ⟨v44, h45, hf⟩ := kBind hf
              refine kgoJ (wr := [(a0, .inr (3, [.ref a1, .ref a3, .ref a5, .ref a7])), (a3, .inr (1, [.ref a4])), (a4, .inl (cI, 132, .inl v41.2)), (a7, .inr (2, [.ref a8, .int LN, .int PS, .ref a9, .ref a10, .ref a11, .int CM])), (a8, .inl (cI, 80, .inl TB)), (a9, .inl (cI, 20, .inl TC)), (a10, .inl (cI, 20, .inl TW)), (a11, .inl (cI, 20, .inl TG))]) (w2 := (wX3 cI a0 a1 a2 a3 a4 a5 a6 a7 a8 a9 a10 a11 R v41.2 v44.1 v44.2.1 v44.2.2 TB LN PS TC TW TG CM)) (krunV (wc := (wX0_X1 cI a5 a6 a1 a2 HR HS HN R)) (As := [.ref a1]) (rest := []) (ci := 0) hx hb hml hown hts hK (kX0_keep l D cI a5 a6 a1 a2 HR HS HN R v44 h45) gX3_setArc_X0_keep rfl rfl rfl hdX0_keep ⟨Nat.le_of_ble_eq_true rfl, Nat.le_of_ble_eq_true rfl⟩ (hP.sub [5, 6, 1, 2] rfl) (hD.sub [5, 6, 1, 2] (by decide) rfl) rfl rfl rfl rfl hl.1 rfl (Nat.le_of_ble_eq_true rfl) dX3_setArc_73 ⟨Nat.zero_le _, Nat.zero_le _⟩) hP hD hS hA [5, 6, 1, 2] [0, 3, 4, 7, 8, 9, 10, 11] [0, 10, 11, 1, 2, 8, 9, 3, 4, 5, 6, 7] rfl rfl (by decide) (by decide) (by decide) rfl (fun H locs hP hD hS => ?_)
              refine lv_aload_n hx hb dX3_setArc_76 rfl (lv_at hl 0 rfl) ?_
              refine va_get (D := D) (ci := 3) (v := .ref a1) (C := RX3) (T := TX3) (N := 4) hx hb hts hinX3 hown hK.1 hP 0 rfl rfl 0 (by decide) hfl10 (fun _ h9 => h9) rfl dX3_setArc_77 ?_
              refine lv_iload_n hx hb dX3_setArc_80 rfl (lv_at hl 1 rfl) ?_
              refine lv_iload_n hx hb dX3_setArc_81 rfl (lv_at hl 2 rfl) ?_
              refine lv_iload_n hx hb dX3_setArc_82 rfl (lv_at hl 3 rfl) ?_
              refine lv_iload hx hb dX3_setArc_83 (lv_at hl 4 rfl) ?_
              obtain ⟨v46, h47, hf⟩ := kBind hf
              refine kgoJ (wr := [(a0, .inr (3, [.ref a1, .ref a3, .ref a5, .ref a7])), (a3, .inr (1, [.ref a4])), (a4, .inl (cI, 132, .inl v41.2)), (a5, .inr (0, [.ref a6, .int v44.2.1, .int v44.2.2])), (a6, .inl (cI, 660, .inl v44.1)), (a7, .inr (2, [.ref a8, .int LN, .int PS, .ref a9, .ref a10, .ref a11, .int CM])), (a8, .inl (cI, 80, .inl TB)), (a9, .inl (cI, 20, .inl TC)), (a10, .inl (cI, 20, .inl TW)), (a11, .inl (cI, 20, .inl TG))]) (w2 := (wX3 cI a0 a1 a2 a3 a4 a5 a6 a7 a8 a9 a10 a11 v46 v41.2 v44.1 v44.2.1 v44.2.2 TB LN PS TC TW TG CM)) (krunV (wc := (wX1 cI a1 a2 R)) (As := [.int x1, .int x2, .int x3, .int x4]) (rest := []) (ci := 1) hx hb hml hown hts hK (kX1_setLimits l D cI a1 a2 R x1 x2 x3 x4 v46 h47) gX3_setArc_X1_setLimits rfl rfl rfl hdX1_setLimits ⟨Nat.le_of_ble_eq_true rfl, Nat.le_of_ble_eq_true rfl⟩ (hP.sub [1, 2] rfl) (hD.sub [1, 2] (by decide) rfl) rfl rfl rfl rfl hl.1 rfl (Nat.le_of_ble_eq_true rfl) dX3_setArc_85 ⟨Nat.zero_le _, Nat.zero_le _⟩) hP hD hS hA [1, 2] [0, 3, 4, 5, 6, 7, 8, 9, 10, 11] [0, 10, 11, 1, 2, 3, 4, 5, 6, 7, 8, 9] rfl rfl (by decide) (by decide) (by decide) rfl (fun H locs hP hD hS => ?_)
              refine lv_iload_n hx hb dX3_setArc_88 rfl (lv_at hl 3 rfl) ?_
              refine lv_iload hx hb dX3_setArc_89 (lv_at hl 4 rfl) ?_
              obtain ⟨v48, h49, hf⟩ := kBind hf
              refine kgoR (krunS (wc := ([] : va_W)) (As := [.int x3, .int x4]) (rest := []) hx hb hml hown hts hK (kX3_stepsClockwise l D cI x3 x4 v48 h49) gX3_setArc_X3_stepsClockwise rfl rfl rfl hdX3_stepsClockwise ⟨Nat.le_of_ble_eq_true rfl, Nat.le_of_ble_eq_true rfl⟩ k_P0 (k_D0 A) rfl hl.1 rfl (Nat.le_of_ble_eq_true rfl) dX3_setArc_91 ⟨Nat.zero_le _, Nat.zero_le _⟩) hP hD hS hA [] rfl (fun H locs hP hS => ?_)
              refine lv_iconst (v := (1 : Int32)) hx hb dX3_setArc_94 (by decide) ?_
              refine lv_iadd hx hb dX3_setArc_95 ?_
              obtain ⟨z50, hz50⟩ : ∃ z : Int32, z = v48 + (1 : Int32) := ⟨_, rfl⟩
              rw [← hz50] at hf
              rw [← hz50]
              have he := Option.some.inj hf
              subst he
              exact kreti hx hb hr hlk hP hD hS dX3_setArc_96
            · have hf := kIfT c43 hf
              refine lv_bipush (v := (-103 : Int32)) hx hb dX3_setArc_62 (by decide) ?_
              have he := Option.some.inj hf
              subst he
              exact kreti hx hb hr hlk hP hD hS dX3_setArc_64
        · have hf := kIfF c37 hf
          refine lv_bipush (v := (-102 : Int32)) hx hb dX3_setArc_36 (by decide) ?_
          have he := Option.some.inj hf
          subst he
          exact kreti hx hb hr hlk hP hD hS dX3_setArc_38
    · have hf := kIfF c31 hf
      refine lv_bipush (v := (-101 : Int32)) hx hb dX3_setArc_18 (by decide) ?_
      have he := Option.some.inj hf
      subst he
      exact kreti hx hb hr hlk hP hD hS dX3_setArc_20
set_option maxHeartbeats 4000000 in
set_option maxRecDepth 100000 in
theorem kX1_firstOf (l : Launch) (D : va_G) (cI : ClassId) (a0 a1 : Nat) (R : (Nat → Int32)) (x1 : Int32) (x2 : Int32) (o : Int32) (hf : fX1_firstOf R x1 x2 = some o) : Ct l yX1_firstOf wsX1_firstOf { frames := 0, cells := 0, slots := 0, locals := 0 } D cI [.ref a0, .int x1, .int x2] (wX1 cI a0 a1 R) (wX1 cI a0 a1 R) (some (.int o)) := by
  refine Ct.of (cc := cX1_firstOf) (maxL := 3) (ret := (some .int)) (by decide) rfl (Nat.le_of_ble_eq_true rfl) ?_
  intro p e s m args below meth c A F hP hD hS ls hl
  obtain ⟨hx, hb, hml, hr, hown, hts, hlk, hK, hA⟩ := F
  have hown : s.vm.findClass RX1 = some m.cls := hown
  have hl : lv_has ls 3 [(0, .ref a0), (1, .int x1), (2, .int x2)] := hl
  have hinX1 : ∀ w ∈ wsX10, w ∈ wsX1_firstOf := by decide +kernel
  have hfl11 := hts (.fieldLink RX1 11 "CraneGuard$Site" "row" "[I") (by decide +kernel)
  unfold fX1_firstOf at hf
  refine lv_aload_n hx hb dX1_firstOf_0 rfl (lv_at hl 0 rfl) ?_
  refine va_get (D := D) (ci := 1) (v := .ref a1) (C := RX1) (T := TX1) (N := 1) hx hb hts hinX1 hown hK.1 hP 0 rfl rfl 0 (by decide) hfl11 (fun _ h9 => h9) rfl dX1_firstOf_1 ?_
  refine lv_bipush (v := (44 : Int32)) hx hb dX1_firstOf_4 (by decide) ?_
  refine lv_iload_n hx hb dX1_firstOf_6 rfl (lv_at hl 1 rfl) ?_
  refine lv_bipush (v := (6 : Int32)) hx hb dX1_firstOf_7 (by decide) ?_
  refine lv_imul hx hb dX1_firstOf_9 ?_
  refine lv_iadd hx hb dX1_firstOf_10 ?_
  refine lv_iload_n hx hb dX1_firstOf_11 rfl (lv_at hl 2 rfl) ?_
  refine lv_iadd hx hb dX1_firstOf_12 ?_
  obtain ⟨v3, h4, hf⟩ := kBind hf
  refine krd hx hb hK hP 1 rfl h4 dX1_firstOf_13 ?_
  have he := Option.some.inj hf
  subst he
  exact kreti hx hb hr hlk hP hD hS dX1_firstOf_14
set_option maxHeartbeats 4000000 in
set_option maxRecDepth 100000 in
theorem kX1_hasArc (l : Launch) (D : va_G) (cI : ClassId) (a0 a1 : Nat) (R : (Nat → Int32)) (x1 : Int32) (x2 : Int32) (o : Bool) (hf : fX1_hasArc R x1 x2 = some o) : Ct l yX1_hasArc wsX1_hasArc { frames := 1, cells := 0, slots := 0, locals := 22 } D cI [.ref a0, .int x1, .int x2] (wX1 cI a0 a1 R) (wX1 cI a0 a1 R) (some (.int (bI o))) := by
  refine Ct.of (cc := cX1_hasArc) (maxL := 3) (ret := (some .boolean)) (by decide) rfl (Nat.le_of_ble_eq_true rfl) ?_
  intro p e s m args below meth c A F hP hD hS ls hl
  obtain ⟨hx, hb, hml, hr, hown, hts, hlk, hK, hA⟩ := F
  have hown : s.vm.findClass RX1 = some m.cls := hown
  have hl : lv_has ls 3 [(0, .ref a0), (1, .int x1), (2, .int x2)] := hl
  unfold fX1_hasArc at hf
  refine lv_aload_n hx hb dX1_hasArc_0 rfl (lv_at hl 0 rfl) ?_
  refine lv_iload_n hx hb dX1_hasArc_1 rfl (lv_at hl 1 rfl) ?_
  refine lv_iload_n hx hb dX1_hasArc_2 rfl (lv_at hl 2 rfl) ?_
  obtain ⟨v4, h5, hf⟩ := kBind hf
  refine kgoR (krunV (wc := (wX1 cI a0 a1 R)) (As := [.int x1, .int x2]) (rest := []) (ci := 1) hx hb hml hown hts hK (kX1_firstOf l D cI a0 a1 R x1 x2 v4 h5) gX1_hasArc_X1_firstOf rfl rfl rfl hdX1_firstOf ⟨Nat.le_of_ble_eq_true rfl, Nat.le_of_ble_eq_true rfl⟩ hP hD rfl rfl rfl rfl hl.1 rfl (Nat.le_of_ble_eq_true rfl) dX1_hasArc_3 ⟨Nat.zero_le _, Nat.zero_le _⟩) hP hD hS hA [0, 1] rfl (fun H locs hP hS => ?_)
  refine lv_bipush (v := (-100 : Int32)) hx hb dX1_hasArc_6 (by decide) ?_
  refine lv_icmp_eq (tgt := 15) hx hb dX1_hasArc_8 (by decide) (fun c6 => ?_) (fun c6 => ?_)
  · have hf := kIfT c6 hf
    refine lv_iconst (v := (0 : Int32)) hx hb dX1_hasArc_15 (by decide) ?_
    have he := Option.some.inj hf
    subst he
    exact kretz hx hb hr hlk hP hD hS dX1_hasArc_16
  · have hf := kIfF c6 hf
    refine lv_iconst (v := (1 : Int32)) hx hb dX1_hasArc_11 (by decide) ?_
    refine lv_goto (tgt := 16) hx hb dX1_hasArc_12 (by decide) ?_
    have he := Option.some.inj hf
    subst he
    exact kretz hx hb hr hlk hP hD hS dX1_hasArc_16
set_option maxHeartbeats 4000000 in
set_option maxRecDepth 100000 in
theorem kX3_removeArc (l : Launch) (D : va_G) (cI : ClassId) (a0 a1 a2 a3 a4 a5 a6 a7 a8 a9 a10 a11 : Nat) (R : (Nat → Int32)) (R2 : (Nat → Int32)) (HR : (Nat → Int32)) (HS : Int32) (HN : Int32) (TB : (Nat → Int32)) (LN : Int32) (PS : Int32) (TC : (Nat → Int32)) (TW : (Nat → Int32)) (TG : (Nat → Int32)) (CM : Int32) (x1 : Int32) (x2 : Int32) (o : Int32 × (Nat → Int32) × (Nat → Int32) × Int32 × Int32) (hf : fX3_removeArc R HR HS HN x1 x2 = some o) : Ct l yX3_removeArc wsX3_removeArc { frames := 3, cells := 0, slots := 0, locals := 61 } D cI [.ref a0, .int x1, .int x2] (wX3 cI a0 a1 a2 a3 a4 a5 a6 a7 a8 a9 a10 a11 R R2 HR HS HN TB LN PS TC TW TG CM) (wX3 cI a0 a1 a2 a3 a4 a5 a6 a7 a8 a9 a10 a11 o.2.1 R2 o.2.2.1 o.2.2.2.1 o.2.2.2.2 TB LN PS TC TW TG CM) (some (.int o.1)) := by
  refine Ct.of (cc := cX3_removeArc) (maxL := 4) (ret := (some .int)) (by decide) rfl (Nat.le_of_ble_eq_true rfl) ?_
  intro p e s m args below meth c A F hP hD hS ls hl
  obtain ⟨hx, hb, hml, hr, hown, hts, hlk, hK, hA⟩ := F
  have hown : s.vm.findClass RX3 = some m.cls := hown
  have hl : lv_has ls 4 [(0, .ref a0), (1, .int x1), (2, .int x2)] := hl
  have hinX3 : ∀ w ∈ wsX30, w ∈ wsX3_removeArc := by decide +kernel
  have hfl10 := hts (.fieldLink RX3 10 "CraneGuard" "site" "LCraneGuard$Site;") (by decide +kernel)
  have hfl22 := hts (.fieldLink RX3 22 "CraneGuard" "history" "LCraneGuard$History;") (by decide +kernel)
  unfold fX3_removeArc at hf
  refine lv_aload_n hx hb dX3_removeArc_0 rfl (lv_at hl 0 rfl) ?_
  refine va_get (D := D) (ci := 3) (v := .ref a1) (C := RX3) (T := TX3) (N := 4) hx hb hts hinX3 hown hK.1 hP 0 rfl rfl 0 (by decide) hfl10 (fun _ h9 => h9) rfl dX3_removeArc_1 ?_
  refine lv_iload_n hx hb dX3_removeArc_4 rfl (lv_at hl 1 rfl) ?_
  obtain ⟨v14, h15, hf⟩ := kBind hf
  refine kgoR (krunV (wc := (wX1 cI a1 a2 R)) (As := [.int x1]) (rest := []) (ci := 1) hx hb hml hown hts hK (kX1_hasCrane l D cI a1 a2 R x1 v14 h15) gX3_removeArc_X1_hasCrane rfl rfl rfl hdX1_hasCrane ⟨Nat.le_of_ble_eq_true rfl, Nat.le_of_ble_eq_true rfl⟩ (hP.sub [1, 2] rfl) (hD.sub [1, 2] (by decide) rfl) rfl rfl rfl rfl hl.1 rfl (Nat.le_of_ble_eq_true rfl) dX3_removeArc_5 ⟨Nat.zero_le _, Nat.zero_le _⟩) hP hD hS hA [1, 2] rfl (fun H locs hP hS => ?_)
  refine kif_eqb (tgt := 18) hx hb dX3_removeArc_8 (by decide) (fun c16 => ?_) (fun c16 => ?_)
  · have hf := kIfF c16 hf
    refine lv_bipush (v := (-101 : Int32)) hx hb dX3_removeArc_18 (by decide) ?_
    have he := Option.some.inj hf
    subst he
    exact kreti hx hb hr hlk hP hD hS dX3_removeArc_20
  · have hf := kIfT c16 hf
    refine lv_iload_n hx hb dX3_removeArc_11 rfl (lv_at hl 2 rfl) ?_
    obtain ⟨v17, h18, hf⟩ := kBind hf
    refine kgoR (krunS (wc := ([] : va_W)) (As := [.int x2]) (rest := []) hx hb hml hown hts hK (kX3_isZone l D cI x2 v17 h18) gX3_removeArc_X3_isZone rfl rfl rfl hdX3_isZone ⟨Nat.le_of_ble_eq_true rfl, Nat.le_of_ble_eq_true rfl⟩ k_P0 (k_D0 A) rfl hl.1 rfl (Nat.le_of_ble_eq_true rfl) dX3_removeArc_12 ⟨Nat.zero_le _, Nat.zero_le _⟩) hP hD hS hA [] rfl (fun H locs hP hS => ?_)
    refine kif_neb (tgt := 21) hx hb dX3_removeArc_15 (by decide) (fun c19 => ?_) (fun c19 => ?_)
    · have hf := kIfT c19 hf
      refine lv_aload_n hx hb dX3_removeArc_21 rfl (lv_at hl 0 rfl) ?_
      refine va_get (D := D) (ci := 3) (v := .ref a5) (C := RX3) (T := TX3) (N := 4) hx hb hts hinX3 hown hK.1 hP 0 rfl rfl 2 (by decide) hfl22 (fun _ h9 => h9) rfl dX3_removeArc_22 ?_
      refine lv_aload_n hx hb dX3_removeArc_25 rfl (lv_at hl 0 rfl) ?_
      refine va_get (D := D) (ci := 3) (v := .ref a1) (C := RX3) (T := TX3) (N := 4) hx hb hts hinX3 hown hK.1 hP 0 rfl rfl 0 (by decide) hfl10 (fun _ h9 => h9) rfl dX3_removeArc_26 ?_
      obtain ⟨v20, h21, hf⟩ := kBind hf
      refine kgoJ (wr := [(a0, .inr (3, [.ref a1, .ref a3, .ref a5, .ref a7])), (a3, .inr (1, [.ref a4])), (a4, .inl (cI, 132, .inl R2)), (a7, .inr (2, [.ref a8, .int LN, .int PS, .ref a9, .ref a10, .ref a11, .int CM])), (a8, .inl (cI, 80, .inl TB)), (a9, .inl (cI, 20, .inl TC)), (a10, .inl (cI, 20, .inl TW)), (a11, .inl (cI, 20, .inl TG))]) (w2 := (wX3 cI a0 a1 a2 a3 a4 a5 a6 a7 a8 a9 a10 a11 R R2 v20.1 v20.2.1 v20.2.2 TB LN PS TC TW TG CM)) (krunV (wc := (wX0_X1 cI a5 a6 a1 a2 HR HS HN R)) (As := [.ref a1]) (rest := []) (ci := 0) hx hb hml hown hts hK (kX0_keep l D cI a5 a6 a1 a2 HR HS HN R v20 h21) gX3_removeArc_X0_keep rfl rfl rfl hdX0_keep ⟨Nat.le_of_ble_eq_true rfl, Nat.le_of_ble_eq_true rfl⟩ (hP.sub [5, 6, 1, 2] rfl) (hD.sub [5, 6, 1, 2] (by decide) rfl) rfl rfl rfl rfl hl.1 rfl (Nat.le_of_ble_eq_true rfl) dX3_removeArc_29 ⟨Nat.zero_le _, Nat.zero_le _⟩) hP hD hS hA [5, 6, 1, 2] [0, 3, 4, 7, 8, 9, 10, 11] [0, 10, 11, 1, 2, 8, 9, 3, 4, 5, 6, 7] rfl rfl (by decide) (by decide) (by decide) rfl (fun H locs hP hD hS => ?_)
      refine lv_aload_n hx hb dX3_removeArc_32 rfl (lv_at hl 0 rfl) ?_
      refine va_get (D := D) (ci := 3) (v := .ref a1) (C := RX3) (T := TX3) (N := 4) hx hb hts hinX3 hown hK.1 hP 0 rfl rfl 0 (by decide) hfl10 (fun _ h9 => h9) rfl dX3_removeArc_33 ?_
      refine lv_iload_n hx hb dX3_removeArc_36 rfl (lv_at hl 1 rfl) ?_
      refine lv_iload_n hx hb dX3_removeArc_37 rfl (lv_at hl 2 rfl) ?_
      obtain ⟨v22, h23, hf⟩ := kBind hf
      refine kgoR (krunV (wc := (wX1 cI a1 a2 R)) (As := [.int x1, .int x2]) (rest := []) (ci := 1) hx hb hml hown hts hK (kX1_hasArc l D cI a1 a2 R x1 x2 v22 h23) gX3_removeArc_X1_hasArc rfl rfl rfl hdX1_hasArc ⟨Nat.le_of_ble_eq_true rfl, Nat.le_of_ble_eq_true rfl⟩ (hP.sub [1, 2] rfl) (hD.sub [1, 2] (by decide) rfl) rfl rfl rfl rfl hl.1 rfl (Nat.le_of_ble_eq_true rfl) dX3_removeArc_38 ⟨Nat.zero_le _, Nat.zero_le _⟩) hP hD hS hA [1, 2] rfl (fun H locs hP hS => ?_)
      refine lv_istore_n (lv' := [(3, .int (bI v22)), (0, .ref a0), (1, .int x1), (2, .int x2)]) hx hb dX3_removeArc_41 rfl hl (by decide) rfl (fun ls hl => ?_)
      refine lv_aload_n hx hb dX3_removeArc_42 rfl (lv_at hl 1 rfl) ?_
      refine va_get (D := D) (ci := 3) (v := .ref a1) (C := RX3) (T := TX3) (N := 4) hx hb hts hinX3 hown hK.1 hP 0 rfl rfl 0 (by decide) hfl10 (fun _ h9 => h9) rfl dX3_removeArc_43 ?_
      refine lv_iload_n hx hb dX3_removeArc_46 rfl (lv_at hl 2 rfl) ?_
      refine lv_iload_n hx hb dX3_removeArc_47 rfl (lv_at hl 3 rfl) ?_
      refine lv_bipush (v := (-100 : Int32)) hx hb dX3_removeArc_48 (by decide) ?_
      refine lv_bipush (v := (-100 : Int32)) hx hb dX3_removeArc_50 (by decide) ?_
      obtain ⟨v24, h25, hf⟩ := kBind hf
      refine kgoJ (wr := [(a0, .inr (3, [.ref a1, .ref a3, .ref a5, .ref a7])), (a3, .inr (1, [.ref a4])), (a4, .inl (cI, 132, .inl R2)), (a5, .inr (0, [.ref a6, .int v20.2.1, .int v20.2.2])), (a6, .inl (cI, 660, .inl v20.1)), (a7, .inr (2, [.ref a8, .int LN, .int PS, .ref a9, .ref a10, .ref a11, .int CM])), (a8, .inl (cI, 80, .inl TB)), (a9, .inl (cI, 20, .inl TC)), (a10, .inl (cI, 20, .inl TW)), (a11, .inl (cI, 20, .inl TG))]) (w2 := (wX3 cI a0 a1 a2 a3 a4 a5 a6 a7 a8 a9 a10 a11 v24 R2 v20.1 v20.2.1 v20.2.2 TB LN PS TC TW TG CM)) (krunV (wc := (wX1 cI a1 a2 R)) (As := [.int x1, .int x2, .int (-100 : Int32), .int (-100 : Int32)]) (rest := []) (ci := 1) hx hb hml hown hts hK (kX1_setLimits l D cI a1 a2 R x1 x2 (-100 : Int32) (-100 : Int32) v24 h25) gX3_removeArc_X1_setLimits rfl rfl rfl hdX1_setLimits ⟨Nat.le_of_ble_eq_true rfl, Nat.le_of_ble_eq_true rfl⟩ (hP.sub [1, 2] rfl) (hD.sub [1, 2] (by decide) rfl) rfl rfl rfl rfl hl.1 rfl (Nat.le_of_ble_eq_true rfl) dX3_removeArc_52 ⟨Nat.zero_le _, Nat.zero_le _⟩) hP hD hS hA [1, 2] [0, 3, 4, 5, 6, 7, 8, 9, 10, 11] [0, 10, 11, 1, 2, 3, 4, 5, 6, 7, 8, 9] rfl rfl (by decide) (by decide) (by decide) rfl (fun H locs hP hD hS => ?_)
      refine lv_iload_n hx hb dX3_removeArc_55 rfl (lv_at hl 0 rfl) ?_
      refine kif_eqb (tgt := 63) hx hb dX3_removeArc_56 (by decide) (fun c26 => ?_) (fun c26 => ?_)
      · have hf := kIfF c26 hf
        refine lv_iconst (v := (0 : Int32)) hx hb dX3_removeArc_63 (by decide) ?_
        have he := Option.some.inj hf
        subst he
        exact kreti hx hb hr hlk hP hD hS dX3_removeArc_64
      · have hf := kIfT c26 hf
        refine lv_iconst (v := (1 : Int32)) hx hb dX3_removeArc_59 (by decide) ?_
        refine lv_goto (tgt := 64) hx hb dX3_removeArc_60 (by decide) ?_
        have he := Option.some.inj hf
        subst he
        exact kreti hx hb hr hlk hP hD hS dX3_removeArc_64
    · have hf := kIfF c19 hf
      refine lv_bipush (v := (-101 : Int32)) hx hb dX3_removeArc_18 (by decide) ?_
      have he := Option.some.inj hf
      subst he
      exact kreti hx hb hr hlk hP hD hS dX3_removeArc_20
set_option maxHeartbeats 4000000 in
set_option maxRecDepth 100000 in
theorem kX1_dropTarget (l : Launch) (D : va_G) (cI : ClassId) (a0 a1 : Nat) (R : (Nat → Int32)) (x1 : Int32) (o : Int32 × (Nat → Int32)) (hf : fX1_dropTarget R x1 = some o) : Ct l yX1_dropTarget wsX1_dropTarget { frames := 0, cells := 0, slots := 0, locals := 0 } D cI [.ref a0, .int x1] (wX1 cI a0 a1 R) (wX1 cI a0 a1 o.2) (some (.int o.1)) := by
  refine Ct.of (cc := cX1_dropTarget) (maxL := 3) (ret := (some .int)) (by decide) rfl (Nat.le_of_ble_eq_true rfl) ?_
  intro p e s m args below meth c A F hP hD hS ls hl
  obtain ⟨hx, hb, hml, hr, hown, hts, hlk, hK, hA⟩ := F
  have hown : s.vm.findClass RX1 = some m.cls := hown
  have hl : lv_has ls 3 [(0, .ref a0), (1, .int x1)] := hl
  have hinX1 : ∀ w ∈ wsX10, w ∈ wsX1_dropTarget := by decide +kernel
  have hfl11 := hts (.fieldLink RX1 11 "CraneGuard$Site" "row" "[I") (by decide +kernel)
  unfold fX1_dropTarget at hf
  refine lv_aload_n hx hb dX1_dropTarget_0 rfl (lv_at hl 0 rfl) ?_
  refine va_get (D := D) (ci := 1) (v := .ref a1) (C := RX1) (T := TX1) (N := 1) hx hb hts hinX1 hown hK.1 hP 0 rfl rfl 0 (by decide) hfl11 (fun _ h9 => h9) rfl dX1_dropTarget_1 ?_
  refine lv_bipush (v := (16 : Int32)) hx hb dX1_dropTarget_4 (by decide) ?_
  refine lv_iload_n hx hb dX1_dropTarget_6 rfl (lv_at hl 1 rfl) ?_
  refine lv_iadd hx hb dX1_dropTarget_7 ?_
  obtain ⟨v7, h8, hf⟩ := kBind hf
  refine krd hx hb hK hP 1 rfl h8 dX1_dropTarget_8 ?_
  refine lv_istore_n (lv' := [(2, .int v7), (0, .ref a0), (1, .int x1)]) hx hb dX1_dropTarget_9 rfl hl (by decide) rfl (fun ls hl => ?_)
  refine lv_aload_n hx hb dX1_dropTarget_10 rfl (lv_at hl 1 rfl) ?_
  refine va_get (D := D) (ci := 1) (v := .ref a1) (C := RX1) (T := TX1) (N := 1) hx hb hts hinX1 hown hK.1 hP 0 rfl rfl 0 (by decide) hfl11 (fun _ h9 => h9) rfl dX1_dropTarget_11 ?_
  refine lv_bipush (v := (16 : Int32)) hx hb dX1_dropTarget_14 (by decide) ?_
  refine lv_iload_n hx hb dX1_dropTarget_16 rfl (lv_at hl 2 rfl) ?_
  refine lv_iadd hx hb dX1_dropTarget_17 ?_
  refine lv_bipush (v := (-100 : Int32)) hx hb dX1_dropTarget_18 (by decide) ?_
  obtain ⟨v9, h10, hf⟩ := kBind hf
  refine kwr hx hb hK hP hD hS 1 rfl h10 (wX1 cI a0 a1 v9) rfl dX1_dropTarget_20 (fun H locs hP hD hS => ?_)
  refine lv_aload_n hx hb dX1_dropTarget_21 rfl (lv_at hl 1 rfl) ?_
  refine va_get (D := D) (ci := 1) (v := .ref a1) (C := RX1) (T := TX1) (N := 1) hx hb hts hinX1 hown hK.1 hP 0 rfl rfl 0 (by decide) hfl11 (fun _ h9 => h9) rfl dX1_dropTarget_22 ?_
  refine lv_bipush (v := (20 : Int32)) hx hb dX1_dropTarget_25 (by decide) ?_
  refine lv_iload_n hx hb dX1_dropTarget_27 rfl (lv_at hl 2 rfl) ?_
  refine lv_iadd hx hb dX1_dropTarget_28 ?_
  refine lv_iconst (v := (0 : Int32)) hx hb dX1_dropTarget_29 (by decide) ?_
  obtain ⟨v11, h12, hf⟩ := kBind hf
  refine kwr hx hb hK hP hD hS 1 rfl h12 (wX1 cI a0 a1 v11) rfl dX1_dropTarget_30 (fun H locs hP hD hS => ?_)
  refine lv_iload_n hx hb dX1_dropTarget_31 rfl (lv_at hl 0 rfl) ?_
  have he := Option.some.inj hf
  subst he
  exact kreti hx hb hr hlk hP hD hS dX1_dropTarget_32
set_option maxHeartbeats 4000000 in
set_option maxRecDepth 100000 in
theorem kX3_stop (l : Launch) (D : va_G) (cI : ClassId) (a0 a1 a2 a3 a4 a5 a6 a7 a8 a9 a10 a11 : Nat) (R : (Nat → Int32)) (R2 : (Nat → Int32)) (HR : (Nat → Int32)) (HS : Int32) (HN : Int32) (TB : (Nat → Int32)) (LN : Int32) (PS : Int32) (TC : (Nat → Int32)) (TW : (Nat → Int32)) (TG : (Nat → Int32)) (CM : Int32) (x1 : Int32) (o : Int32 × (Nat → Int32) × (Nat → Int32) × Int32 × Int32) (hf : fX3_stop R HR HS HN x1 = some o) : Ct l yX3_stop wsX3_stop { frames := 3, cells := 0, slots := 0, locals := 61 } D cI [.ref a0, .int x1] (wX3 cI a0 a1 a2 a3 a4 a5 a6 a7 a8 a9 a10 a11 R R2 HR HS HN TB LN PS TC TW TG CM) (wX3 cI a0 a1 a2 a3 a4 a5 a6 a7 a8 a9 a10 a11 o.2.1 R2 o.2.2.1 o.2.2.2.1 o.2.2.2.2 TB LN PS TC TW TG CM) (some (.int o.1)) := by
  refine Ct.of (cc := cX3_stop) (maxL := 2) (ret := (some .int)) (by decide) rfl (Nat.le_of_ble_eq_true rfl) ?_
  intro p e s m args below meth c A F hP hD hS ls hl
  obtain ⟨hx, hb, hml, hr, hown, hts, hlk, hK, hA⟩ := F
  have hown : s.vm.findClass RX3 = some m.cls := hown
  have hl : lv_has ls 2 [(0, .ref a0), (1, .int x1)] := hl
  have hinX3 : ∀ w ∈ wsX30, w ∈ wsX3_stop := by decide +kernel
  have hfl10 := hts (.fieldLink RX3 10 "CraneGuard" "site" "LCraneGuard$Site;") (by decide +kernel)
  have hfl22 := hts (.fieldLink RX3 22 "CraneGuard" "history" "LCraneGuard$History;") (by decide +kernel)
  unfold fX3_stop at hf
  refine lv_aload_n hx hb dX3_stop_0 rfl (lv_at hl 0 rfl) ?_
  refine va_get (D := D) (ci := 3) (v := .ref a1) (C := RX3) (T := TX3) (N := 4) hx hb hts hinX3 hown hK.1 hP 0 rfl rfl 0 (by decide) hfl10 (fun _ h9 => h9) rfl dX3_stop_1 ?_
  refine lv_iload_n hx hb dX3_stop_4 rfl (lv_at hl 1 rfl) ?_
  obtain ⟨v11, h12, hf⟩ := kBind hf
  refine kgoR (krunV (wc := (wX1 cI a1 a2 R)) (As := [.int x1]) (rest := []) (ci := 1) hx hb hml hown hts hK (kX1_hasCrane l D cI a1 a2 R x1 v11 h12) gX3_stop_X1_hasCrane rfl rfl rfl hdX1_hasCrane ⟨Nat.le_of_ble_eq_true rfl, Nat.le_of_ble_eq_true rfl⟩ (hP.sub [1, 2] rfl) (hD.sub [1, 2] (by decide) rfl) rfl rfl rfl rfl hl.1 rfl (Nat.le_of_ble_eq_true rfl) dX3_stop_5 ⟨Nat.zero_le _, Nat.zero_le _⟩) hP hD hS hA [1, 2] rfl (fun H locs hP hS => ?_)
  refine kif_neb (tgt := 14) hx hb dX3_stop_8 (by decide) (fun c13 => ?_) (fun c13 => ?_)
  · have hf := kIfT c13 hf
    refine lv_aload_n hx hb dX3_stop_14 rfl (lv_at hl 0 rfl) ?_
    refine va_get (D := D) (ci := 3) (v := .ref a1) (C := RX3) (T := TX3) (N := 4) hx hb hts hinX3 hown hK.1 hP 0 rfl rfl 0 (by decide) hfl10 (fun _ h9 => h9) rfl dX3_stop_15 ?_
    refine lv_iload_n hx hb dX3_stop_18 rfl (lv_at hl 1 rfl) ?_
    obtain ⟨v14, h15, hf⟩ := kBind hf
    refine kgoR (krunV (wc := (wX1 cI a1 a2 R)) (As := [.int x1]) (rest := []) (ci := 1) hx hb hml hown hts hK (kX1_isOnStep l D cI a1 a2 R x1 v14 h15) gX3_stop_X1_isOnStep rfl rfl rfl hdX1_isOnStep ⟨Nat.le_of_ble_eq_true rfl, Nat.le_of_ble_eq_true rfl⟩ (hP.sub [1, 2] rfl) (hD.sub [1, 2] (by decide) rfl) rfl rfl rfl rfl hl.1 rfl (Nat.le_of_ble_eq_true rfl) dX3_stop_19 ⟨Nat.zero_le _, Nat.zero_le _⟩) hP hD hS hA [1, 2] rfl (fun H locs hP hS => ?_)
    refine kif_eqb (tgt := 28) hx hb dX3_stop_22 (by decide) (fun c16 => ?_) (fun c16 => ?_)
    · have hf := kIfF c16 hf
      refine lv_aload_n hx hb dX3_stop_28 rfl (lv_at hl 0 rfl) ?_
      refine va_get (D := D) (ci := 3) (v := .ref a5) (C := RX3) (T := TX3) (N := 4) hx hb hts hinX3 hown hK.1 hP 0 rfl rfl 2 (by decide) hfl22 (fun _ h9 => h9) rfl dX3_stop_29 ?_
      refine lv_aload_n hx hb dX3_stop_32 rfl (lv_at hl 0 rfl) ?_
      refine va_get (D := D) (ci := 3) (v := .ref a1) (C := RX3) (T := TX3) (N := 4) hx hb hts hinX3 hown hK.1 hP 0 rfl rfl 0 (by decide) hfl10 (fun _ h9 => h9) rfl dX3_stop_33 ?_
      obtain ⟨v17, h18, hf⟩ := kBind hf
      refine kgoJ (wr := [(a0, .inr (3, [.ref a1, .ref a3, .ref a5, .ref a7])), (a3, .inr (1, [.ref a4])), (a4, .inl (cI, 132, .inl R2)), (a7, .inr (2, [.ref a8, .int LN, .int PS, .ref a9, .ref a10, .ref a11, .int CM])), (a8, .inl (cI, 80, .inl TB)), (a9, .inl (cI, 20, .inl TC)), (a10, .inl (cI, 20, .inl TW)), (a11, .inl (cI, 20, .inl TG))]) (w2 := (wX3 cI a0 a1 a2 a3 a4 a5 a6 a7 a8 a9 a10 a11 R R2 v17.1 v17.2.1 v17.2.2 TB LN PS TC TW TG CM)) (krunV (wc := (wX0_X1 cI a5 a6 a1 a2 HR HS HN R)) (As := [.ref a1]) (rest := []) (ci := 0) hx hb hml hown hts hK (kX0_keep l D cI a5 a6 a1 a2 HR HS HN R v17 h18) gX3_stop_X0_keep rfl rfl rfl hdX0_keep ⟨Nat.le_of_ble_eq_true rfl, Nat.le_of_ble_eq_true rfl⟩ (hP.sub [5, 6, 1, 2] rfl) (hD.sub [5, 6, 1, 2] (by decide) rfl) rfl rfl rfl rfl hl.1 rfl (Nat.le_of_ble_eq_true rfl) dX3_stop_36 ⟨Nat.zero_le _, Nat.zero_le _⟩) hP hD hS hA [5, 6, 1, 2] [0, 3, 4, 7, 8, 9, 10, 11] [0, 10, 11, 1, 2, 8, 9, 3, 4, 5, 6, 7] rfl rfl (by decide) (by decide) (by decide) rfl (fun H locs hP hD hS => ?_)
      refine lv_aload_n hx hb dX3_stop_39 rfl (lv_at hl 0 rfl) ?_
      refine va_get (D := D) (ci := 3) (v := .ref a1) (C := RX3) (T := TX3) (N := 4) hx hb hts hinX3 hown hK.1 hP 0 rfl rfl 0 (by decide) hfl10 (fun _ h9 => h9) rfl dX3_stop_40 ?_
      refine lv_iload_n hx hb dX3_stop_43 rfl (lv_at hl 1 rfl) ?_
      obtain ⟨v19, h20, hf⟩ := kBind hf
      refine kgoJ (wr := [(a0, .inr (3, [.ref a1, .ref a3, .ref a5, .ref a7])), (a3, .inr (1, [.ref a4])), (a4, .inl (cI, 132, .inl R2)), (a5, .inr (0, [.ref a6, .int v17.2.1, .int v17.2.2])), (a6, .inl (cI, 660, .inl v17.1)), (a7, .inr (2, [.ref a8, .int LN, .int PS, .ref a9, .ref a10, .ref a11, .int CM])), (a8, .inl (cI, 80, .inl TB)), (a9, .inl (cI, 20, .inl TC)), (a10, .inl (cI, 20, .inl TW)), (a11, .inl (cI, 20, .inl TG))]) (w2 := (wX3 cI a0 a1 a2 a3 a4 a5 a6 a7 a8 a9 a10 a11 v19.2 R2 v17.1 v17.2.1 v17.2.2 TB LN PS TC TW TG CM)) (krunV (wc := (wX1 cI a1 a2 R)) (As := [.int x1]) (rest := []) (ci := 1) hx hb hml hown hts hK (kX1_dropTarget l D cI a1 a2 R x1 v19 h20) gX3_stop_X1_dropTarget rfl rfl rfl hdX1_dropTarget ⟨Nat.le_of_ble_eq_true rfl, Nat.le_of_ble_eq_true rfl⟩ (hP.sub [1, 2] rfl) (hD.sub [1, 2] (by decide) rfl) rfl rfl rfl rfl hl.1 rfl (Nat.le_of_ble_eq_true rfl) dX3_stop_44 ⟨Nat.zero_le _, Nat.zero_le _⟩) hP hD hS hA [1, 2] [0, 3, 4, 5, 6, 7, 8, 9, 10, 11] [0, 10, 11, 1, 2, 3, 4, 5, 6, 7, 8, 9] rfl rfl (by decide) (by decide) (by decide) rfl (fun H locs hP hD hS => ?_)
      have he := Option.some.inj hf
      subst he
      exact kreti hx hb hr hlk hP hD hS dX3_stop_47
    · have hf := kIfT c16 hf
      refine lv_bipush (v := (-103 : Int32)) hx hb dX3_stop_25 (by decide) ?_
      have he := Option.some.inj hf
      subst he
      exact kreti hx hb hr hlk hP hD hS dX3_stop_27
  · have hf := kIfF c13 hf
    refine lv_bipush (v := (-101 : Int32)) hx hb dX3_stop_11 (by decide) ?_
    have he := Option.some.inj hf
    subst he
    exact kreti hx hb hr hlk hP hD hS dX3_stop_13
set_option maxHeartbeats 4000000 in
set_option maxRecDepth 100000 in
theorem kX1_hasTarget (l : Launch) (D : va_G) (cI : ClassId) (a0 a1 : Nat) (R : (Nat → Int32)) (x1 : Int32) (o : Bool) (hf : fX1_hasTarget R x1 = some o) : Ct l yX1_hasTarget wsX1_hasTarget { frames := 0, cells := 0, slots := 0, locals := 0 } D cI [.ref a0, .int x1] (wX1 cI a0 a1 R) (wX1 cI a0 a1 R) (some (.int (bI o))) := by
  refine Ct.of (cc := cX1_hasTarget) (maxL := 2) (ret := (some .boolean)) (by decide) rfl (Nat.le_of_ble_eq_true rfl) ?_
  intro p e s m args below meth c A F hP hD hS ls hl
  obtain ⟨hx, hb, hml, hr, hown, hts, hlk, hK, hA⟩ := F
  have hown : s.vm.findClass RX1 = some m.cls := hown
  have hl : lv_has ls 2 [(0, .ref a0), (1, .int x1)] := hl
  have hinX1 : ∀ w ∈ wsX10, w ∈ wsX1_hasTarget := by decide +kernel
  have hfl11 := hts (.fieldLink RX1 11 "CraneGuard$Site" "row" "[I") (by decide +kernel)
  unfold fX1_hasTarget at hf
  refine lv_aload_n hx hb dX1_hasTarget_0 rfl (lv_at hl 0 rfl) ?_
  refine va_get (D := D) (ci := 1) (v := .ref a1) (C := RX1) (T := TX1) (N := 1) hx hb hts hinX1 hown hK.1 hP 0 rfl rfl 0 (by decide) hfl11 (fun _ h9 => h9) rfl dX1_hasTarget_1 ?_
  refine lv_bipush (v := (16 : Int32)) hx hb dX1_hasTarget_4 (by decide) ?_
  refine lv_iload_n hx hb dX1_hasTarget_6 rfl (lv_at hl 1 rfl) ?_
  refine lv_iadd hx hb dX1_hasTarget_7 ?_
  obtain ⟨v4, h5, hf⟩ := kBind hf
  refine krd hx hb hK hP 1 rfl h5 dX1_hasTarget_8 ?_
  refine lv_bipush (v := (-100 : Int32)) hx hb dX1_hasTarget_9 (by decide) ?_
  refine lv_icmp_eq (tgt := 18) hx hb dX1_hasTarget_11 (by decide) (fun c6 => ?_) (fun c6 => ?_)
  · have hf := kIfT c6 hf
    refine lv_iconst (v := (0 : Int32)) hx hb dX1_hasTarget_18 (by decide) ?_
    have he := Option.some.inj hf
    subst he
    exact kretz hx hb hr hlk hP hD hS dX1_hasTarget_19
  · have hf := kIfF c6 hf
    refine lv_iconst (v := (1 : Int32)) hx hb dX1_hasTarget_14 (by decide) ?_
    refine lv_goto (tgt := 19) hx hb dX1_hasTarget_15 (by decide) ?_
    have he := Option.some.inj hf
    subst he
    exact kretz hx hb hr hlk hP hD hS dX1_hasTarget_19
set_option maxHeartbeats 4000000 in
set_option maxRecDepth 100000 in
theorem kX1_stepsToTarget (l : Launch) (D : va_G) (cI : ClassId) (a0 a1 : Nat) (R : (Nat → Int32)) (x1 : Int32) (o : Int32) (hf : fX1_stepsToTarget R x1 = some o) : Ct l yX1_stepsToTarget wsX1_stepsToTarget { frames := 1, cells := 0, slots := 0, locals := 21 } D cI [.ref a0, .int x1] (wX1 cI a0 a1 R) (wX1 cI a0 a1 R) (some (.int o)) := by
  refine Ct.of (cc := cX1_stepsToTarget) (maxL := 4) (ret := (some .int)) (by decide) rfl (Nat.le_of_ble_eq_true rfl) ?_
  intro p e s m args below meth c A F hP hD hS ls hl
  obtain ⟨hx, hb, hml, hr, hown, hts, hlk, hK, hA⟩ := F
  have hown : s.vm.findClass RX1 = some m.cls := hown
  have hl : lv_has ls 4 [(0, .ref a0), (1, .int x1)] := hl
  have hinX1 : ∀ w ∈ wsX10, w ∈ wsX1_stepsToTarget := by decide +kernel
  have hfl11 := hts (.fieldLink RX1 11 "CraneGuard$Site" "row" "[I") (by decide +kernel)
  unfold fX1_stepsToTarget at hf
  refine lv_aload_n hx hb dX1_stepsToTarget_0 rfl (lv_at hl 0 rfl) ?_
  refine va_get (D := D) (ci := 1) (v := .ref a1) (C := RX1) (T := TX1) (N := 1) hx hb hts hinX1 hown hK.1 hP 0 rfl rfl 0 (by decide) hfl11 (fun _ h9 => h9) rfl dX1_stepsToTarget_1 ?_
  refine lv_iconst (v := (4 : Int32)) hx hb dX1_stepsToTarget_4 (by decide) ?_
  refine lv_iload_n hx hb dX1_stepsToTarget_5 rfl (lv_at hl 1 rfl) ?_
  refine lv_iadd hx hb dX1_stepsToTarget_6 ?_
  obtain ⟨v12, h13, hf⟩ := kBind hf
  refine krd hx hb hK hP 1 rfl h13 dX1_stepsToTarget_7 ?_
  refine lv_istore_n (lv' := [(2, .int v12), (0, .ref a0), (1, .int x1)]) hx hb dX1_stepsToTarget_8 rfl hl (by decide) rfl (fun ls hl => ?_)
  refine lv_aload_n hx hb dX1_stepsToTarget_9 rfl (lv_at hl 1 rfl) ?_
  refine va_get (D := D) (ci := 1) (v := .ref a1) (C := RX1) (T := TX1) (N := 1) hx hb hts hinX1 hown hK.1 hP 0 rfl rfl 0 (by decide) hfl11 (fun _ h9 => h9) rfl dX1_stepsToTarget_10 ?_
  refine lv_bipush (v := (16 : Int32)) hx hb dX1_stepsToTarget_13 (by decide) ?_
  refine lv_iload_n hx hb dX1_stepsToTarget_15 rfl (lv_at hl 2 rfl) ?_
  refine lv_iadd hx hb dX1_stepsToTarget_16 ?_
  obtain ⟨v14, h15, hf⟩ := kBind hf
  refine krd hx hb hK hP 1 rfl h15 dX1_stepsToTarget_17 ?_
  refine lv_istore_n (lv' := [(3, .int v14), (2, .int v12), (0, .ref a0), (1, .int x1)]) hx hb dX1_stepsToTarget_18 rfl hl (by decide) rfl (fun ls hl => ?_)
  refine lv_aload_n hx hb dX1_stepsToTarget_19 rfl (lv_at hl 2 rfl) ?_
  refine va_get (D := D) (ci := 1) (v := .ref a1) (C := RX1) (T := TX1) (N := 1) hx hb hts hinX1 hown hK.1 hP 0 rfl rfl 0 (by decide) hfl11 (fun _ h9 => h9) rfl dX1_stepsToTarget_20 ?_
  refine lv_bipush (v := (20 : Int32)) hx hb dX1_stepsToTarget_23 (by decide) ?_
  refine lv_iload_n hx hb dX1_stepsToTarget_25 rfl (lv_at hl 3 rfl) ?_
  refine lv_iadd hx hb dX1_stepsToTarget_26 ?_
  obtain ⟨v16, h17, hf⟩ := kBind hf
  refine krd hx hb hK hP 1 rfl h17 dX1_stepsToTarget_27 ?_
  refine lv_iconst (v := (1 : Int32)) hx hb dX1_stepsToTarget_28 (by decide) ?_
  refine lv_icmp_ne (tgt := 40) hx hb dX1_stepsToTarget_29 (by decide) (fun c18 => ?_) (fun c18 => ?_)
  · have hf := kIfF c18 hf
    refine lv_iload_n hx hb dX1_stepsToTarget_40 rfl (lv_at hl 0 rfl) ?_
    refine lv_iload_n hx hb dX1_stepsToTarget_41 rfl (lv_at hl 1 rfl) ?_
    obtain ⟨v19, h20, hf⟩ := kBind hf
    refine kgoR (krunSN (wc := ([] : va_W)) (As := [.int v14, .int v12]) (rest := []) hx hb hml hown hts hK (kX3_stepsClockwise l D cI v14 v12 v19 h20) ggX1_stepsToTarget_X3_stepsClockwise hK.2.2.1 (hts (.initialized RX3) (by decide +kernel)) (hts (.static yX3_stepsClockwise) (by decide +kernel)) rfl rfl rfl hdX3_stepsClockwise ⟨Nat.le_of_ble_eq_true rfl, Nat.le_of_ble_eq_true rfl⟩ k_P0 (k_D0 A) rfl hl.1 rfl (Nat.le_of_ble_eq_true rfl) dX1_stepsToTarget_42 ⟨Nat.zero_le _, Nat.zero_le _⟩) hP hD hS hA [] rfl (fun H locs hP hS => ?_)
    have he := Option.some.inj hf
    subst he
    exact kreti hx hb hr hlk hP hD hS dX1_stepsToTarget_45
  · have hf := kIfT c18 hf
    refine lv_iload_n hx hb dX1_stepsToTarget_32 rfl (lv_at hl 1 rfl) ?_
    refine lv_iload_n hx hb dX1_stepsToTarget_33 rfl (lv_at hl 0 rfl) ?_
    obtain ⟨v21, h22, hf⟩ := kBind hf
    refine kgoR (krunSN (wc := ([] : va_W)) (As := [.int v12, .int v14]) (rest := []) hx hb hml hown hts hK (kX3_stepsClockwise l D cI v12 v14 v21 h22) ggX1_stepsToTarget_X3_stepsClockwise hK.2.2.1 (hts (.initialized RX3) (by decide +kernel)) (hts (.static yX3_stepsClockwise) (by decide +kernel)) rfl rfl rfl hdX3_stepsClockwise ⟨Nat.le_of_ble_eq_true rfl, Nat.le_of_ble_eq_true rfl⟩ k_P0 (k_D0 A) rfl hl.1 rfl (Nat.le_of_ble_eq_true rfl) dX1_stepsToTarget_34 ⟨Nat.zero_le _, Nat.zero_le _⟩) hP hD hS hA [] rfl (fun H locs hP hS => ?_)
    refine lv_goto (tgt := 45) hx hb dX1_stepsToTarget_37 (by decide) ?_
    have he := Option.some.inj hf
    subst he
    exact kreti hx hb hr hlk hP hD hS dX1_stepsToTarget_45
set_option maxHeartbeats 4000000 in
set_option maxRecDepth 100000 in
theorem kX1_changeWay (l : Launch) (D : va_G) (cI : ClassId) (a0 a1 : Nat) (R : (Nat → Int32)) (x1 : Int32) (o : Int32 × (Nat → Int32)) (hf : fX1_changeWay R x1 = some o) : Ct l yX1_changeWay wsX1_changeWay { frames := 2, cells := 0, slots := 0, locals := 44 } D cI [.ref a0, .int x1] (wX1 cI a0 a1 R) (wX1 cI a0 a1 o.2) (some (.int o.1)) := by
  refine Ct.of (cc := cX1_changeWay) (maxL := 2) (ret := (some .int)) (by decide) rfl (Nat.le_of_ble_eq_true rfl) ?_
  intro p e s m args below meth c A F hP hD hS ls hl
  obtain ⟨hx, hb, hml, hr, hown, hts, hlk, hK, hA⟩ := F
  have hown : s.vm.findClass RX1 = some m.cls := hown
  have hl : lv_has ls 2 [(0, .ref a0), (1, .int x1)] := hl
  have hinX1 : ∀ w ∈ wsX10, w ∈ wsX1_changeWay := by decide +kernel
  have hfl11 := hts (.fieldLink RX1 11 "CraneGuard$Site" "row" "[I") (by decide +kernel)
  unfold fX1_changeWay at hf
  refine lv_aload_n hx hb dX1_changeWay_0 rfl (lv_at hl 0 rfl) ?_
  refine va_get (D := D) (ci := 1) (v := .ref a1) (C := RX1) (T := TX1) (N := 1) hx hb hts hinX1 hown hK.1 hP 0 rfl rfl 0 (by decide) hfl11 (fun _ h9 => h9) rfl dX1_changeWay_1 ?_
  refine lv_bipush (v := (20 : Int32)) hx hb dX1_changeWay_4 (by decide) ?_
  refine lv_iload_n hx hb dX1_changeWay_6 rfl (lv_at hl 1 rfl) ?_
  refine lv_iadd hx hb dX1_changeWay_7 ?_
  refine lv_aload_n hx hb dX1_changeWay_8 rfl (lv_at hl 0 rfl) ?_
  refine va_get (D := D) (ci := 1) (v := .ref a1) (C := RX1) (T := TX1) (N := 1) hx hb hts hinX1 hown hK.1 hP 0 rfl rfl 0 (by decide) hfl11 (fun _ h9 => h9) rfl dX1_changeWay_9 ?_
  refine lv_bipush (v := (20 : Int32)) hx hb dX1_changeWay_12 (by decide) ?_
  refine lv_iload_n hx hb dX1_changeWay_14 rfl (lv_at hl 1 rfl) ?_
  refine lv_iadd hx hb dX1_changeWay_15 ?_
  obtain ⟨v7, h8, hf⟩ := kBind hf
  refine krd hx hb hK hP 1 rfl h8 dX1_changeWay_16 ?_
  refine lv_ineg hx hb dX1_changeWay_17 ?_
  obtain ⟨v9, h10, hf⟩ := kBind hf
  refine kwr hx hb hK hP hD hS 1 rfl h10 (wX1 cI a0 a1 v9) rfl dX1_changeWay_18 (fun H locs hP hD hS => ?_)
  refine lv_aload_n hx hb dX1_changeWay_19 rfl (lv_at hl 0 rfl) ?_
  refine lv_iload_n hx hb dX1_changeWay_20 rfl (lv_at hl 1 rfl) ?_
  obtain ⟨v11, h12, hf⟩ := kBind hf
  refine kgoR (krunV (wc := (wX1 cI a0 a1 v9)) (As := [.int x1]) (rest := []) (ci := 1) hx hb hml hown hts hK (kX1_stepsToTarget l D cI a0 a1 v9 x1 v11 h12) gX1_changeWay_X1_stepsToTarget rfl rfl rfl hdX1_stepsToTarget ⟨Nat.le_of_ble_eq_true rfl, Nat.le_of_ble_eq_true rfl⟩ hP hD rfl rfl rfl rfl hl.1 rfl (Nat.le_of_ble_eq_true rfl) dX1_changeWay_21 ⟨Nat.zero_le _, Nat.zero_le _⟩) hP hD hS hA [0, 1] rfl (fun H locs hP hS => ?_)
  have he := Option.some.inj hf
  subst he
  exact kreti hx hb hr hlk hP hD hS dX1_changeWay_24
set_option maxHeartbeats 4000000 in
set_option maxRecDepth 100000 in
theorem kX3_turnRound (l : Launch) (D : va_G) (cI : ClassId) (a0 a1 a2 a3 a4 a5 a6 a7 a8 a9 a10 a11 : Nat) (R : (Nat → Int32)) (R2 : (Nat → Int32)) (HR : (Nat → Int32)) (HS : Int32) (HN : Int32) (TB : (Nat → Int32)) (LN : Int32) (PS : Int32) (TC : (Nat → Int32)) (TW : (Nat → Int32)) (TG : (Nat → Int32)) (CM : Int32) (x1 : Int32) (o : Int32 × (Nat → Int32) × (Nat → Int32) × Int32 × Int32) (hf : fX3_turnRound R HR HS HN x1 = some o) : Ct l yX3_turnRound wsX3_turnRound { frames := 3, cells := 0, slots := 0, locals := 65 } D cI [.ref a0, .int x1] (wX3 cI a0 a1 a2 a3 a4 a5 a6 a7 a8 a9 a10 a11 R R2 HR HS HN TB LN PS TC TW TG CM) (wX3 cI a0 a1 a2 a3 a4 a5 a6 a7 a8 a9 a10 a11 o.2.1 R2 o.2.2.1 o.2.2.2.1 o.2.2.2.2 TB LN PS TC TW TG CM) (some (.int o.1)) := by
  refine Ct.of (cc := cX3_turnRound) (maxL := 2) (ret := (some .int)) (by decide) rfl (Nat.le_of_ble_eq_true rfl) ?_
  intro p e s m args below meth c A F hP hD hS ls hl
  obtain ⟨hx, hb, hml, hr, hown, hts, hlk, hK, hA⟩ := F
  have hown : s.vm.findClass RX3 = some m.cls := hown
  have hl : lv_has ls 2 [(0, .ref a0), (1, .int x1)] := hl
  have hinX3 : ∀ w ∈ wsX30, w ∈ wsX3_turnRound := by decide +kernel
  have hfl10 := hts (.fieldLink RX3 10 "CraneGuard" "site" "LCraneGuard$Site;") (by decide +kernel)
  have hfl22 := hts (.fieldLink RX3 22 "CraneGuard" "history" "LCraneGuard$History;") (by decide +kernel)
  unfold fX3_turnRound at hf
  refine lv_aload_n hx hb dX3_turnRound_0 rfl (lv_at hl 0 rfl) ?_
  refine va_get (D := D) (ci := 3) (v := .ref a1) (C := RX3) (T := TX3) (N := 4) hx hb hts hinX3 hown hK.1 hP 0 rfl rfl 0 (by decide) hfl10 (fun _ h9 => h9) rfl dX3_turnRound_1 ?_
  refine lv_iload_n hx hb dX3_turnRound_4 rfl (lv_at hl 1 rfl) ?_
  obtain ⟨v14, h15, hf⟩ := kBind hf
  refine kgoR (krunV (wc := (wX1 cI a1 a2 R)) (As := [.int x1]) (rest := []) (ci := 1) hx hb hml hown hts hK (kX1_hasCrane l D cI a1 a2 R x1 v14 h15) gX3_turnRound_X1_hasCrane rfl rfl rfl hdX1_hasCrane ⟨Nat.le_of_ble_eq_true rfl, Nat.le_of_ble_eq_true rfl⟩ (hP.sub [1, 2] rfl) (hD.sub [1, 2] (by decide) rfl) rfl rfl rfl rfl hl.1 rfl (Nat.le_of_ble_eq_true rfl) dX3_turnRound_5 ⟨Nat.zero_le _, Nat.zero_le _⟩) hP hD hS hA [1, 2] rfl (fun H locs hP hS => ?_)
  refine kif_neb (tgt := 14) hx hb dX3_turnRound_8 (by decide) (fun c16 => ?_) (fun c16 => ?_)
  · have hf := kIfT c16 hf
    refine lv_aload_n hx hb dX3_turnRound_14 rfl (lv_at hl 0 rfl) ?_
    refine va_get (D := D) (ci := 3) (v := .ref a1) (C := RX3) (T := TX3) (N := 4) hx hb hts hinX3 hown hK.1 hP 0 rfl rfl 0 (by decide) hfl10 (fun _ h9 => h9) rfl dX3_turnRound_15 ?_
    refine lv_iload_n hx hb dX3_turnRound_18 rfl (lv_at hl 1 rfl) ?_
    obtain ⟨v17, h18, hf⟩ := kBind hf
    refine kgoR (krunV (wc := (wX1 cI a1 a2 R)) (As := [.int x1]) (rest := []) (ci := 1) hx hb hml hown hts hK (kX1_hasTarget l D cI a1 a2 R x1 v17 h18) gX3_turnRound_X1_hasTarget rfl rfl rfl hdX1_hasTarget ⟨Nat.le_of_ble_eq_true rfl, Nat.le_of_ble_eq_true rfl⟩ (hP.sub [1, 2] rfl) (hD.sub [1, 2] (by decide) rfl) rfl rfl rfl rfl hl.1 rfl (Nat.le_of_ble_eq_true rfl) dX3_turnRound_19 ⟨Nat.zero_le _, Nat.zero_le _⟩) hP hD hS hA [1, 2] rfl (fun H locs hP hS => ?_)
    refine kif_eqb (tgt := 36) hx hb dX3_turnRound_22 (by decide) (fun c19 => ?_) (fun c19 => ?_)
    · have hf := kIfF c19 hf
      refine lv_bipush (v := (-103 : Int32)) hx hb dX3_turnRound_36 (by decide) ?_
      have he := Option.some.inj hf
      subst he
      exact kreti hx hb hr hlk hP hD hS dX3_turnRound_38
    · have hf := kIfT c19 hf
      refine lv_aload_n hx hb dX3_turnRound_25 rfl (lv_at hl 0 rfl) ?_
      refine va_get (D := D) (ci := 3) (v := .ref a1) (C := RX3) (T := TX3) (N := 4) hx hb hts hinX3 hown hK.1 hP 0 rfl rfl 0 (by decide) hfl10 (fun _ h9 => h9) rfl dX3_turnRound_26 ?_
      refine lv_iload_n hx hb dX3_turnRound_29 rfl (lv_at hl 1 rfl) ?_
      obtain ⟨v20, h21, hf⟩ := kBind hf
      refine kgoR (krunV (wc := (wX1 cI a1 a2 R)) (As := [.int x1]) (rest := []) (ci := 1) hx hb hml hown hts hK (kX1_isOnStep l D cI a1 a2 R x1 v20 h21) gX3_turnRound_X1_isOnStep rfl rfl rfl hdX1_isOnStep ⟨Nat.le_of_ble_eq_true rfl, Nat.le_of_ble_eq_true rfl⟩ (hP.sub [1, 2] rfl) (hD.sub [1, 2] (by decide) rfl) rfl rfl rfl rfl hl.1 rfl (Nat.le_of_ble_eq_true rfl) dX3_turnRound_30 ⟨Nat.zero_le _, Nat.zero_le _⟩) hP hD hS hA [1, 2] rfl (fun H locs hP hS => ?_)
      refine kif_eqb (tgt := 39) hx hb dX3_turnRound_33 (by decide) (fun c22 => ?_) (fun c22 => ?_)
      · have hf := kIfF c22 hf
        refine lv_aload_n hx hb dX3_turnRound_39 rfl (lv_at hl 0 rfl) ?_
        refine va_get (D := D) (ci := 3) (v := .ref a5) (C := RX3) (T := TX3) (N := 4) hx hb hts hinX3 hown hK.1 hP 0 rfl rfl 2 (by decide) hfl22 (fun _ h9 => h9) rfl dX3_turnRound_40 ?_
        refine lv_aload_n hx hb dX3_turnRound_43 rfl (lv_at hl 0 rfl) ?_
        refine va_get (D := D) (ci := 3) (v := .ref a1) (C := RX3) (T := TX3) (N := 4) hx hb hts hinX3 hown hK.1 hP 0 rfl rfl 0 (by decide) hfl10 (fun _ h9 => h9) rfl dX3_turnRound_44 ?_
        obtain ⟨v23, h24, hf⟩ := kBind hf
        refine kgoJ (wr := [(a0, .inr (3, [.ref a1, .ref a3, .ref a5, .ref a7])), (a3, .inr (1, [.ref a4])), (a4, .inl (cI, 132, .inl R2)), (a7, .inr (2, [.ref a8, .int LN, .int PS, .ref a9, .ref a10, .ref a11, .int CM])), (a8, .inl (cI, 80, .inl TB)), (a9, .inl (cI, 20, .inl TC)), (a10, .inl (cI, 20, .inl TW)), (a11, .inl (cI, 20, .inl TG))]) (w2 := (wX3 cI a0 a1 a2 a3 a4 a5 a6 a7 a8 a9 a10 a11 R R2 v23.1 v23.2.1 v23.2.2 TB LN PS TC TW TG CM)) (krunV (wc := (wX0_X1 cI a5 a6 a1 a2 HR HS HN R)) (As := [.ref a1]) (rest := []) (ci := 0) hx hb hml hown hts hK (kX0_keep l D cI a5 a6 a1 a2 HR HS HN R v23 h24) gX3_turnRound_X0_keep rfl rfl rfl hdX0_keep ⟨Nat.le_of_ble_eq_true rfl, Nat.le_of_ble_eq_true rfl⟩ (hP.sub [5, 6, 1, 2] rfl) (hD.sub [5, 6, 1, 2] (by decide) rfl) rfl rfl rfl rfl hl.1 rfl (Nat.le_of_ble_eq_true rfl) dX3_turnRound_47 ⟨Nat.zero_le _, Nat.zero_le _⟩) hP hD hS hA [5, 6, 1, 2] [0, 3, 4, 7, 8, 9, 10, 11] [0, 10, 11, 1, 2, 8, 9, 3, 4, 5, 6, 7] rfl rfl (by decide) (by decide) (by decide) rfl (fun H locs hP hD hS => ?_)
        refine lv_aload_n hx hb dX3_turnRound_50 rfl (lv_at hl 0 rfl) ?_
        refine va_get (D := D) (ci := 3) (v := .ref a1) (C := RX3) (T := TX3) (N := 4) hx hb hts hinX3 hown hK.1 hP 0 rfl rfl 0 (by decide) hfl10 (fun _ h9 => h9) rfl dX3_turnRound_51 ?_
        refine lv_iload_n hx hb dX3_turnRound_54 rfl (lv_at hl 1 rfl) ?_
        obtain ⟨v25, h26, hf⟩ := kBind hf
        refine kgoJ (wr := [(a0, .inr (3, [.ref a1, .ref a3, .ref a5, .ref a7])), (a3, .inr (1, [.ref a4])), (a4, .inl (cI, 132, .inl R2)), (a5, .inr (0, [.ref a6, .int v23.2.1, .int v23.2.2])), (a6, .inl (cI, 660, .inl v23.1)), (a7, .inr (2, [.ref a8, .int LN, .int PS, .ref a9, .ref a10, .ref a11, .int CM])), (a8, .inl (cI, 80, .inl TB)), (a9, .inl (cI, 20, .inl TC)), (a10, .inl (cI, 20, .inl TW)), (a11, .inl (cI, 20, .inl TG))]) (w2 := (wX3 cI a0 a1 a2 a3 a4 a5 a6 a7 a8 a9 a10 a11 v25.2 R2 v23.1 v23.2.1 v23.2.2 TB LN PS TC TW TG CM)) (krunV (wc := (wX1 cI a1 a2 R)) (As := [.int x1]) (rest := []) (ci := 1) hx hb hml hown hts hK (kX1_changeWay l D cI a1 a2 R x1 v25 h26) gX3_turnRound_X1_changeWay rfl rfl rfl hdX1_changeWay ⟨Nat.le_of_ble_eq_true rfl, Nat.le_of_ble_eq_true rfl⟩ (hP.sub [1, 2] rfl) (hD.sub [1, 2] (by decide) rfl) rfl rfl rfl rfl hl.1 rfl (Nat.le_of_ble_eq_true rfl) dX3_turnRound_55 ⟨Nat.zero_le _, Nat.zero_le _⟩) hP hD hS hA [1, 2] [0, 3, 4, 5, 6, 7, 8, 9, 10, 11] [0, 10, 11, 1, 2, 3, 4, 5, 6, 7, 8, 9] rfl rfl (by decide) (by decide) (by decide) rfl (fun H locs hP hD hS => ?_)
        have he := Option.some.inj hf
        subst he
        exact kreti hx hb hr hlk hP hD hS dX3_turnRound_58
      · have hf := kIfT c22 hf
        refine lv_bipush (v := (-103 : Int32)) hx hb dX3_turnRound_36 (by decide) ?_
        have he := Option.some.inj hf
        subst he
        exact kreti hx hb hr hlk hP hD hS dX3_turnRound_38
  · have hf := kIfF c16 hf
    refine lv_bipush (v := (-101 : Int32)) hx hb dX3_turnRound_11 (by decide) ?_
    have he := Option.some.inj hf
    subst he
    exact kreti hx hb hr hlk hP hD hS dX3_turnRound_13
set_option maxHeartbeats 4000000 in
set_option maxRecDepth 100000 in
theorem kX1_canBeLeft (l : Launch) (D : va_G) (cI : ClassId) (fu : Nat) (a0 a1 : Nat) (R : (Nat → Int32)) (x1 : Int32) (o : Bool) (hf : fX1_canBeLeft fu R x1 = some o) : Ct l yX1_canBeLeft wsX1_canBeLeft { frames := 2, cells := 0, slots := 0, locals := 48 } D cI [.ref a0, .int x1] (wX1 cI a0 a1 R) (wX1 cI a0 a1 R) (some (.int (bI o))) := by
  refine Ct.of (cc := cX1_canBeLeft) (maxL := 4) (ret := (some .boolean)) (by decide) rfl (Nat.le_of_ble_eq_true rfl) ?_
  intro p e s m args below meth c A F hP hD hS ls hl
  obtain ⟨hx, hb, hml, hr, hown, hts, hlk, hK, hA⟩ := F
  have hown : s.vm.findClass RX1 = some m.cls := hown
  have hl : lv_has ls 4 [(0, .ref a0), (1, .int x1)] := hl
  have hinX1 : ∀ w ∈ wsX10, w ∈ wsX1_canBeLeft := by decide +kernel
  have hfl11 := hts (.fieldLink RX1 11 "CraneGuard$Site" "row" "[I") (by decide +kernel)
  unfold fX1_canBeLeft at hf
  refine lv_aload_n hx hb dX1_canBeLeft_0 rfl (lv_at hl 0 rfl) ?_
  refine lv_iload_n hx hb dX1_canBeLeft_1 rfl (lv_at hl 1 rfl) ?_
  obtain ⟨v27, h28, hf⟩ := kBind hf
  refine kgoR (krunV (wc := (wX1 cI a0 a1 R)) (As := [.int x1]) (rest := []) (ci := 1) hx hb hml hown hts hK (kX1_zonesWithArc l D cI fu a0 a1 R x1 v27 h28) gX1_canBeLeft_X1_zonesWithArc rfl rfl rfl hdX1_zonesWithArc ⟨Nat.le_of_ble_eq_true rfl, Nat.le_of_ble_eq_true rfl⟩ hP hD rfl rfl rfl rfl hl.1 rfl (Nat.le_of_ble_eq_true rfl) dX1_canBeLeft_2 ⟨Nat.zero_le _, Nat.zero_le _⟩) hP hD hS hA [0, 1] rfl (fun H locs hP hS => ?_)
  refine lv_istore_n (lv' := [(2, .int v27), (0, .ref a0), (1, .int x1)]) hx hb dX1_canBeLeft_5 rfl hl (by decide) rfl (fun ls hl => ?_)
  refine lv_iconst (v := (0 : Int32)) hx hb dX1_canBeLeft_6 (by decide) ?_
  refine lv_istore_n (lv' := [(3, .int (0 : Int32)), (2, .int v27), (0, .ref a0), (1, .int x1)]) hx hb dX1_canBeLeft_7 rfl hl (by decide) rfl (fun ls hl => ?_)
  have hl : lv_has ls 4 [(3, .int (0 : Int32)), (2, .int v27), (0, .ref a0), (1, .int x1)] := hl
  refine klp hf (fun t8 : Int32 => (wX1 cI a0 a1 R)) 4 (fun t8 : Int32 => [(3, .int t8), (2, .int v27), (0, .ref a0), (1, .int x1)]) ?_ hP hD hS hl
  intro t8 x8_ hf hI1 hO1 H locs ls hP hD hS hl
  unfold fX1_canBeLeft_L8 at hf
  have hP : va_P D vwCl (wX1 cI a0 a1 R) H := hP
  have hD : va_D A (wX1 cI a0 a1 R) := hD
  have hl : lv_has ls 4 [(3, .int t8), (2, .int v27), (0, .ref a0), (1, .int x1)] := hl
  refine lv_iload_n hx hb dX1_canBeLeft_8 rfl (lv_at hl 0 rfl) ?_
  refine lv_aload_n hx hb dX1_canBeLeft_9 rfl (lv_at hl 2 rfl) ?_
  refine va_get (D := D) (ci := 1) (v := .ref a1) (C := RX1) (T := TX1) (N := 1) hx hb hts hinX1 hown hK.1 hP 0 rfl rfl 0 (by decide) hfl11 (fun _ h9 => h9) rfl dX1_canBeLeft_10 ?_
  refine lv_iconst (v := (2 : Int32)) hx hb dX1_canBeLeft_13 (by decide) ?_
  obtain ⟨v29, h30, hf⟩ := kBind hf
  refine krd hx hb hK hP 1 rfl h30 dX1_canBeLeft_14 ?_
  refine lv_icmp_ge (tgt := 41) hx hb dX1_canBeLeft_15 (by decide) (fun c31 => ?_) (fun c31 => ?_)
  · have hf := kIfT c31 hf
    refine lv_aload_n hx hb dX1_canBeLeft_41 rfl (lv_at hl 2 rfl) ?_
    refine lv_iload_n hx hb dX1_canBeLeft_42 rfl (lv_at hl 3 rfl) ?_
    obtain ⟨v32, h33, hf⟩ := kBind hf
    refine kgoR (krunV (wc := (wX1 cI a0 a1 R)) (As := [.int x1]) (rest := []) (ci := 1) hx hb hml hown hts hK (kX1_isOnStep l D cI a0 a1 R x1 v32 h33) gX1_canBeLeft_X1_isOnStep rfl rfl rfl hdX1_isOnStep ⟨Nat.le_of_ble_eq_true rfl, Nat.le_of_ble_eq_true rfl⟩ hP hD rfl rfl rfl rfl hl.1 rfl (Nat.le_of_ble_eq_true rfl) dX1_canBeLeft_43 ⟨Nat.zero_le _, Nat.zero_le _⟩) hP hD hS hA [0, 1] rfl (fun H locs hP hS => ?_)
    refine kif_neb (tgt := 53) hx hb dX1_canBeLeft_46 (by decide) (fun c34 => ?_) (fun c34 => ?_)
    · have hf := kIfT c34 hf
      refine lv_iconst (v := (0 : Int32)) hx hb dX1_canBeLeft_53 (by decide) ?_
      have he := Option.some.inj hf
      have he := hO1 _ he.symm
      subst he
      exact kretz hx hb hr hlk hP hD hS dX1_canBeLeft_54
    · have hf := kIfF c34 hf
      refine lv_iconst (v := (1 : Int32)) hx hb dX1_canBeLeft_49 (by decide) ?_
      refine lv_goto (tgt := 54) hx hb dX1_canBeLeft_50 (by decide) ?_
      have he := Option.some.inj hf
      have he := hO1 _ he.symm
      subst he
      exact kretz hx hb hr hlk hP hD hS dX1_canBeLeft_54
  · have hf := kIfF c31 hf
    refine lv_iload_n hx hb dX1_canBeLeft_18 rfl (lv_at hl 0 rfl) ?_
    refine lv_iload_n hx hb dX1_canBeLeft_19 rfl (lv_at hl 3 rfl) ?_
    refine lv_icmp_eq (tgt := 35) hx hb dX1_canBeLeft_20 (by decide) (fun c35 => ?_) (fun c35 => ?_)
    · have hf := kIfT c35 hf
      refine lv_iinc (v := t8 + (1 : Int32)) (lv' := [(3, .int (t8 + (1 : Int32))), (2, .int v27), (0, .ref a0), (1, .int x1)]) hx hb dX1_canBeLeft_35 hl (k := 0) rfl rfl (by decide) rfl (fun ls hl => ?_)
      refine lv_goto (tgt := 8) hx hb dX1_canBeLeft_38 (by decide) ?_
      obtain ⟨z36, hz36⟩ : ∃ z : Int32, z = t8 + (1 : Int32) := ⟨_, rfl⟩
      rw [← hz36] at hf
      have he := (Option.some.inj hf).symm
      have hl : lv_has ls 4 [(3, .int z36), (2, .int v27), (0, .ref a0), (1, .int x1)] := by rw [hz36]; exact lv_sub hl [0, 1, 2, 3] rfl
      exact hI1 _ he H locs ls hP hD hS hl
    · have hf := kIfF c35 hf
      refine lv_aload_n hx hb dX1_canBeLeft_23 rfl (lv_at hl 2 rfl) ?_
      refine lv_iload_n hx hb dX1_canBeLeft_24 rfl (lv_at hl 0 rfl) ?_
      obtain ⟨v37, h38, hf⟩ := kBind hf
      refine kgoR (krunV (wc := (wX1 cI a0 a1 R)) (As := [.int t8]) (rest := []) (ci := 1) hx hb hml hown hts hK (kX1_zonesOccupiedBy l D cI fu a0 a1 R t8 v37 h38) gX1_canBeLeft_X1_zonesOccupiedBy rfl rfl rfl hdX1_zonesOccupiedBy ⟨Nat.le_of_ble_eq_true rfl, Nat.le_of_ble_eq_true rfl⟩ hP hD rfl rfl rfl rfl hl.1 rfl (Nat.le_of_ble_eq_true rfl) dX1_canBeLeft_25 ⟨Nat.zero_le _, Nat.zero_le _⟩) hP hD hS hA [0, 1] rfl (fun H locs hP hS => ?_)
      refine lv_iload_n hx hb dX1_canBeLeft_28 rfl (lv_at hl 1 rfl) ?_
      refine lv_iand hx hb dX1_canBeLeft_29 ?_
      refine lv_if_eq (tgt := 35) hx hb dX1_canBeLeft_30 (by decide) (fun c39 => ?_) (fun c39 => ?_)
      · have hf := kIfT c39 hf
        refine lv_iinc (v := t8 + (1 : Int32)) (lv' := [(3, .int (t8 + (1 : Int32))), (2, .int v27), (0, .ref a0), (1, .int x1)]) hx hb dX1_canBeLeft_35 hl (k := 0) rfl rfl (by decide) rfl (fun ls hl => ?_)
        refine lv_goto (tgt := 8) hx hb dX1_canBeLeft_38 (by decide) ?_
        obtain ⟨z40, hz40⟩ : ∃ z : Int32, z = t8 + (1 : Int32) := ⟨_, rfl⟩
        rw [← hz40] at hf
        have he := (Option.some.inj hf).symm
        have hl : lv_has ls 4 [(3, .int z40), (2, .int v27), (0, .ref a0), (1, .int x1)] := by rw [hz40]; exact lv_sub hl [0, 1, 2, 3] rfl
        exact hI1 _ he H locs ls hP hD hS hl
      · have hf := kIfF c39 hf
        refine lv_iconst (v := (0 : Int32)) hx hb dX1_canBeLeft_33 (by decide) ?_
        have he := Option.some.inj hf
        have he := hO1 _ he.symm
        subst he
        exact kretz hx hb hr hlk hP hD hS dX1_canBeLeft_34
set_option maxHeartbeats 4000000 in
set_option maxRecDepth 100000 in
theorem kX1_leaveToWind (l : Launch) (D : va_G) (cI : ClassId) (a0 a1 : Nat) (R : (Nat → Int32)) (x1 : Int32) (o : (Nat → Int32)) (hf : fX1_leaveToWind R x1 = some o) : Ct l yX1_leaveToWind wsX1_leaveToWind { frames := 1, cells := 0, slots := 0, locals := 22 } D cI [.ref a0, .int x1] (wX1 cI a0 a1 R) (wX1 cI a0 a1 o) none := by
  refine Ct.of (cc := cX1_leaveToWind) (maxL := 2) (ret := none) (by decide) rfl (Nat.le_of_ble_eq_true rfl) ?_
  intro p e s m args below meth c A F hP hD hS ls hl
  obtain ⟨hx, hb, hml, hr, hown, hts, hlk, hK, hA⟩ := F
  have hown : s.vm.findClass RX1 = some m.cls := hown
  have hl : lv_has ls 2 [(0, .ref a0), (1, .int x1)] := hl
  have hinX1 : ∀ w ∈ wsX10, w ∈ wsX1_leaveToWind := by decide +kernel
  have hfl11 := hts (.fieldLink RX1 11 "CraneGuard$Site" "row" "[I") (by decide +kernel)
  unfold fX1_leaveToWind at hf
  refine lv_aload_n hx hb dX1_leaveToWind_0 rfl (lv_at hl 0 rfl) ?_
  refine lv_iload_n hx hb dX1_leaveToWind_1 rfl (lv_at hl 1 rfl) ?_
  obtain ⟨v5, h6, hf⟩ := kBind hf
  refine kgoA (krunV (wc := (wX1 cI a0 a1 R)) (As := [.int x1]) (rest := []) (ci := 1) hx hb hml hown hts hK (kX1_dropTarget l D cI a0 a1 R x1 v5 h6) gX1_leaveToWind_X1_dropTarget rfl rfl rfl hdX1_dropTarget ⟨Nat.le_of_ble_eq_true rfl, Nat.le_of_ble_eq_true rfl⟩ hP hD rfl rfl rfl rfl hl.1 rfl (Nat.le_of_ble_eq_true rfl) dX1_leaveToWind_2 ⟨Nat.zero_le _, Nat.zero_le _⟩) hD hS hA (fun H locs hP hD hS => ?_)
  refine lv_pop hx hb dX1_leaveToWind_5 rfl ?_
  refine lv_aload_n hx hb dX1_leaveToWind_6 rfl (lv_at hl 0 rfl) ?_
  refine va_get (D := D) (ci := 1) (v := .ref a1) (C := RX1) (T := TX1) (N := 1) hx hb hts hinX1 hown hK.1 hP 0 rfl rfl 0 (by decide) hfl11 (fun _ h9 => h9) rfl dX1_leaveToWind_7 ?_
  refine lv_bipush (v := (32 : Int32)) hx hb dX1_leaveToWind_10 (by decide) ?_
  refine lv_iload_n hx hb dX1_leaveToWind_12 rfl (lv_at hl 1 rfl) ?_
  refine lv_iadd hx hb dX1_leaveToWind_13 ?_
  refine lv_iconst (v := (1 : Int32)) hx hb dX1_leaveToWind_14 (by decide) ?_
  obtain ⟨v7, h8, hf⟩ := kBind hf
  refine kwr hx hb hK hP hD hS 1 rfl h8 (wX1 cI a0 a1 v7) rfl dX1_leaveToWind_15 (fun H locs hP hD hS => ?_)
  have he := Option.some.inj hf
  subst he
  exact kretv hx hb hr hlk hP hD hS dX1_leaveToWind_16
set_option maxHeartbeats 4000000 in
set_option maxRecDepth 100000 in
theorem kX1_takeBack (l : Launch) (D : va_G) (cI : ClassId) (a0 a1 : Nat) (R : (Nat → Int32)) (x1 : Int32) (o : (Nat → Int32)) (hf : fX1_takeBack R x1 = some o) : Ct l yX1_takeBack wsX1_takeBack { frames := 0, cells := 0, slots := 0, locals := 0 } D cI [.ref a0, .int x1] (wX1 cI a0 a1 R) (wX1 cI a0 a1 o) none := by
  refine Ct.of (cc := cX1_takeBack) (maxL := 2) (ret := none) (by decide) rfl (Nat.le_of_ble_eq_true rfl) ?_
  intro p e s m args below meth c A F hP hD hS ls hl
  obtain ⟨hx, hb, hml, hr, hown, hts, hlk, hK, hA⟩ := F
  have hown : s.vm.findClass RX1 = some m.cls := hown
  have hl : lv_has ls 2 [(0, .ref a0), (1, .int x1)] := hl
  have hinX1 : ∀ w ∈ wsX10, w ∈ wsX1_takeBack := by decide +kernel
  have hfl11 := hts (.fieldLink RX1 11 "CraneGuard$Site" "row" "[I") (by decide +kernel)
  unfold fX1_takeBack at hf
  refine lv_aload_n hx hb dX1_takeBack_0 rfl (lv_at hl 0 rfl) ?_
  refine va_get (D := D) (ci := 1) (v := .ref a1) (C := RX1) (T := TX1) (N := 1) hx hb hts hinX1 hown hK.1 hP 0 rfl rfl 0 (by decide) hfl11 (fun _ h9 => h9) rfl dX1_takeBack_1 ?_
  refine lv_bipush (v := (32 : Int32)) hx hb dX1_takeBack_4 (by decide) ?_
  refine lv_iload_n hx hb dX1_takeBack_6 rfl (lv_at hl 1 rfl) ?_
  refine lv_iadd hx hb dX1_takeBack_7 ?_
  refine lv_iconst (v := (0 : Int32)) hx hb dX1_takeBack_8 (by decide) ?_
  obtain ⟨v3, h4, hf⟩ := kBind hf
  refine kwr hx hb hK hP hD hS 1 rfl h4 (wX1 cI a0 a1 v3) rfl dX1_takeBack_9 (fun H locs hP hD hS => ?_)
  have he := Option.some.inj hf
  subst he
  exact kretv hx hb hr hlk hP hD hS dX1_takeBack_10
set_option maxHeartbeats 4000000 in
set_option maxRecDepth 100000 in
theorem kX3_leave (l : Launch) (D : va_G) (cI : ClassId) (fu : Nat) (a0 a1 a2 a3 a4 a5 a6 a7 a8 a9 a10 a11 : Nat) (R : (Nat → Int32)) (R2 : (Nat → Int32)) (HR : (Nat → Int32)) (HS : Int32) (HN : Int32) (TB : (Nat → Int32)) (LN : Int32) (PS : Int32) (TC : (Nat → Int32)) (TW : (Nat → Int32)) (TG : (Nat → Int32)) (CM : Int32) (x1 : Int32) (x2 : Bool) (o : Int32 × (Nat → Int32) × (Nat → Int32) × Int32 × Int32) (hf : fX3_leave fu R HR HS HN x1 x2 = some o) : Ct l yX3_leave wsX3_leave { frames := 3, cells := 0, slots := 0, locals := 71 } D cI [.ref a0, .int x1, .int (bI x2)] (wX3 cI a0 a1 a2 a3 a4 a5 a6 a7 a8 a9 a10 a11 R R2 HR HS HN TB LN PS TC TW TG CM) (wX3 cI a0 a1 a2 a3 a4 a5 a6 a7 a8 a9 a10 a11 o.2.1 R2 o.2.2.1 o.2.2.2.1 o.2.2.2.2 TB LN PS TC TW TG CM) (some (.int o.1)) := by
  refine Ct.of (cc := cX3_leave) (maxL := 4) (ret := (some .int)) (by decide) rfl (Nat.le_of_ble_eq_true rfl) ?_
  intro p e s m args below meth c A F hP hD hS ls hl
  obtain ⟨hx, hb, hml, hr, hown, hts, hlk, hK, hA⟩ := F
  have hown : s.vm.findClass RX3 = some m.cls := hown
  have hl : lv_has ls 4 [(0, .ref a0), (1, .int x1), (2, .int (bI x2))] := hl
  have hinX3 : ∀ w ∈ wsX30, w ∈ wsX3_leave := by decide +kernel
  have hfl10 := hts (.fieldLink RX3 10 "CraneGuard" "site" "LCraneGuard$Site;") (by decide +kernel)
  have hfl22 := hts (.fieldLink RX3 22 "CraneGuard" "history" "LCraneGuard$History;") (by decide +kernel)
  unfold fX3_leave at hf
  refine lv_aload_n hx hb dX3_leave_0 rfl (lv_at hl 0 rfl) ?_
  refine va_get (D := D) (ci := 3) (v := .ref a1) (C := RX3) (T := TX3) (N := 4) hx hb hts hinX3 hown hK.1 hP 0 rfl rfl 0 (by decide) hfl10 (fun _ h9 => h9) rfl dX3_leave_1 ?_
  refine lv_iload_n hx hb dX3_leave_4 rfl (lv_at hl 1 rfl) ?_
  obtain ⟨v38, h39, hf⟩ := kBind hf
  refine kgoR (krunV (wc := (wX1 cI a1 a2 R)) (As := [.int x1]) (rest := []) (ci := 1) hx hb hml hown hts hK (kX1_hasCrane l D cI a1 a2 R x1 v38 h39) gX3_leave_X1_hasCrane rfl rfl rfl hdX1_hasCrane ⟨Nat.le_of_ble_eq_true rfl, Nat.le_of_ble_eq_true rfl⟩ (hP.sub [1, 2] rfl) (hD.sub [1, 2] (by decide) rfl) rfl rfl rfl rfl hl.1 rfl (Nat.le_of_ble_eq_true rfl) dX3_leave_5 ⟨Nat.zero_le _, Nat.zero_le _⟩) hP hD hS hA [1, 2] rfl (fun H locs hP hS => ?_)
  refine kif_neb (tgt := 14) hx hb dX3_leave_8 (by decide) (fun c40 => ?_) (fun c40 => ?_)
  · have hf := kIfT c40 hf
    refine lv_aload_n hx hb dX3_leave_14 rfl (lv_at hl 0 rfl) ?_
    refine va_get (D := D) (ci := 3) (v := .ref a1) (C := RX3) (T := TX3) (N := 4) hx hb hts hinX3 hown hK.1 hP 0 rfl rfl 0 (by decide) hfl10 (fun _ h9 => h9) rfl dX3_leave_15 ?_
    refine lv_iload_n hx hb dX3_leave_18 rfl (lv_at hl 1 rfl) ?_
    obtain ⟨v41, h42, hf⟩ := kBind hf
    refine kgoR (krunV (wc := (wX1 cI a1 a2 R)) (As := [.int x1]) (rest := []) (ci := 1) hx hb hml hown hts hK (kX1_isLeft l D cI a1 a2 R x1 v41 h42) gX3_leave_X1_isLeft rfl rfl rfl hdX1_isLeft ⟨Nat.le_of_ble_eq_true rfl, Nat.le_of_ble_eq_true rfl⟩ (hP.sub [1, 2] rfl) (hD.sub [1, 2] (by decide) rfl) rfl rfl rfl rfl hl.1 rfl (Nat.le_of_ble_eq_true rfl) dX3_leave_19 ⟨Nat.zero_le _, Nat.zero_le _⟩) hP hD hS hA [1, 2] rfl (fun H locs hP hS => ?_)
    refine lv_istore_n (lv' := [(3, .int (bI v41)), (0, .ref a0), (1, .int x1), (2, .int (bI x2))]) hx hb dX3_leave_22 rfl hl (by decide) rfl (fun ls hl => ?_)
    refine lv_iload_n hx hb dX3_leave_23 rfl (lv_at hl 3 rfl) ?_
    refine kif_eqb (tgt := 45) hx hb dX3_leave_24 (by decide) (fun c43 => ?_) (fun c43 => ?_)
    · have hf := kIfF c43 hf
      refine lv_aload_n hx hb dX3_leave_45 rfl (lv_at hl 1 rfl) ?_
      refine va_get (D := D) (ci := 3) (v := .ref a5) (C := RX3) (T := TX3) (N := 4) hx hb hts hinX3 hown hK.1 hP 0 rfl rfl 2 (by decide) hfl22 (fun _ h9 => h9) rfl dX3_leave_46 ?_
      refine lv_aload_n hx hb dX3_leave_49 rfl (lv_at hl 1 rfl) ?_
      refine va_get (D := D) (ci := 3) (v := .ref a1) (C := RX3) (T := TX3) (N := 4) hx hb hts hinX3 hown hK.1 hP 0 rfl rfl 0 (by decide) hfl10 (fun _ h9 => h9) rfl dX3_leave_50 ?_
      obtain ⟨v44, h45, hf⟩ := kBind hf
      refine kgoJ (wr := [(a0, .inr (3, [.ref a1, .ref a3, .ref a5, .ref a7])), (a3, .inr (1, [.ref a4])), (a4, .inl (cI, 132, .inl R2)), (a7, .inr (2, [.ref a8, .int LN, .int PS, .ref a9, .ref a10, .ref a11, .int CM])), (a8, .inl (cI, 80, .inl TB)), (a9, .inl (cI, 20, .inl TC)), (a10, .inl (cI, 20, .inl TW)), (a11, .inl (cI, 20, .inl TG))]) (w2 := (wX3 cI a0 a1 a2 a3 a4 a5 a6 a7 a8 a9 a10 a11 R R2 v44.1 v44.2.1 v44.2.2 TB LN PS TC TW TG CM)) (krunV (wc := (wX0_X1 cI a5 a6 a1 a2 HR HS HN R)) (As := [.ref a1]) (rest := []) (ci := 0) hx hb hml hown hts hK (kX0_keep l D cI a5 a6 a1 a2 HR HS HN R v44 h45) gX3_leave_X0_keep rfl rfl rfl hdX0_keep ⟨Nat.le_of_ble_eq_true rfl, Nat.le_of_ble_eq_true rfl⟩ (hP.sub [5, 6, 1, 2] rfl) (hD.sub [5, 6, 1, 2] (by decide) rfl) rfl rfl rfl rfl hl.1 rfl (Nat.le_of_ble_eq_true rfl) dX3_leave_53 ⟨Nat.zero_le _, Nat.zero_le _⟩) hP hD hS hA [5, 6, 1, 2] [0, 3, 4, 7, 8, 9, 10, 11] [0, 10, 11, 1, 2, 8, 9, 3, 4, 5, 6, 7] rfl rfl (by decide) (by decide) (by decide) rfl (fun H locs hP hD hS => ?_)
      refine lv_iload_n hx hb dX3_leave_56 rfl (lv_at hl 3 rfl) ?_
      refine kif_eqb (tgt := 71) hx hb dX3_leave_57 (by decide) (fun c46 => ?_) (fun c46 => ?_)
      · have hf := kIfF c46 hf
        refine lv_aload_n hx hb dX3_leave_71 rfl (lv_at hl 1 rfl) ?_
        refine va_get (D := D) (ci := 3) (v := .ref a1) (C := RX3) (T := TX3) (N := 4) hx hb hts hinX3 hown hK.1 hP 0 rfl rfl 0 (by decide) hfl10 (fun _ h9 => h9) rfl dX3_leave_72 ?_
        refine lv_iload_n hx hb dX3_leave_75 rfl (lv_at hl 2 rfl) ?_
        obtain ⟨v47, h48, hf⟩ := kBind hf
        refine kgoJ (wr := [(a0, .inr (3, [.ref a1, .ref a3, .ref a5, .ref a7])), (a3, .inr (1, [.ref a4])), (a4, .inl (cI, 132, .inl R2)), (a5, .inr (0, [.ref a6, .int v44.2.1, .int v44.2.2])), (a6, .inl (cI, 660, .inl v44.1)), (a7, .inr (2, [.ref a8, .int LN, .int PS, .ref a9, .ref a10, .ref a11, .int CM])), (a8, .inl (cI, 80, .inl TB)), (a9, .inl (cI, 20, .inl TC)), (a10, .inl (cI, 20, .inl TW)), (a11, .inl (cI, 20, .inl TG))]) (w2 := (wX3 cI a0 a1 a2 a3 a4 a5 a6 a7 a8 a9 a10 a11 v47 R2 v44.1 v44.2.1 v44.2.2 TB LN PS TC TW TG CM)) (krunV (wc := (wX1 cI a1 a2 R)) (As := [.int x1]) (rest := []) (ci := 1) hx hb hml hown hts hK (kX1_takeBack l D cI a1 a2 R x1 v47 h48) gX3_leave_X1_takeBack rfl rfl rfl hdX1_takeBack ⟨Nat.le_of_ble_eq_true rfl, Nat.le_of_ble_eq_true rfl⟩ (hP.sub [1, 2] rfl) (hD.sub [1, 2] (by decide) rfl) rfl rfl rfl rfl hl.1 rfl (Nat.le_of_ble_eq_true rfl) dX3_leave_76 ⟨Nat.zero_le _, Nat.zero_le _⟩) hP hD hS hA [1, 2] [0, 3, 4, 5, 6, 7, 8, 9, 10, 11] [0, 10, 11, 1, 2, 3, 4, 5, 6, 7, 8, 9] rfl rfl (by decide) (by decide) (by decide) rfl (fun H locs hP hD hS => ?_)
        refine lv_iload_n hx hb dX3_leave_79 rfl (lv_at hl 0 rfl) ?_
        refine kif_eqb (tgt := 87) hx hb dX3_leave_80 (by decide) (fun c49 => ?_) (fun c49 => ?_)
        · have hf := kIfF c49 hf
          refine lv_iconst (v := (0 : Int32)) hx hb dX3_leave_87 (by decide) ?_
          have he := Option.some.inj hf
          subst he
          exact kreti hx hb hr hlk hP hD hS dX3_leave_88
        · have hf := kIfT c49 hf
          refine lv_iconst (v := (1 : Int32)) hx hb dX3_leave_83 (by decide) ?_
          refine lv_goto (tgt := 88) hx hb dX3_leave_84 (by decide) ?_
          have he := Option.some.inj hf
          subst he
          exact kreti hx hb hr hlk hP hD hS dX3_leave_88
      · have hf := kIfT c46 hf
        refine lv_aload_n hx hb dX3_leave_60 rfl (lv_at hl 1 rfl) ?_
        refine va_get (D := D) (ci := 3) (v := .ref a1) (C := RX3) (T := TX3) (N := 4) hx hb hts hinX3 hown hK.1 hP 0 rfl rfl 0 (by decide) hfl10 (fun _ h9 => h9) rfl dX3_leave_61 ?_
        refine lv_iload_n hx hb dX3_leave_64 rfl (lv_at hl 2 rfl) ?_
        obtain ⟨v50, h51, hf⟩ := kBind hf
        refine kgoJ (wr := [(a0, .inr (3, [.ref a1, .ref a3, .ref a5, .ref a7])), (a3, .inr (1, [.ref a4])), (a4, .inl (cI, 132, .inl R2)), (a5, .inr (0, [.ref a6, .int v44.2.1, .int v44.2.2])), (a6, .inl (cI, 660, .inl v44.1)), (a7, .inr (2, [.ref a8, .int LN, .int PS, .ref a9, .ref a10, .ref a11, .int CM])), (a8, .inl (cI, 80, .inl TB)), (a9, .inl (cI, 20, .inl TC)), (a10, .inl (cI, 20, .inl TW)), (a11, .inl (cI, 20, .inl TG))]) (w2 := (wX3 cI a0 a1 a2 a3 a4 a5 a6 a7 a8 a9 a10 a11 v50 R2 v44.1 v44.2.1 v44.2.2 TB LN PS TC TW TG CM)) (krunV (wc := (wX1 cI a1 a2 R)) (As := [.int x1]) (rest := []) (ci := 1) hx hb hml hown hts hK (kX1_leaveToWind l D cI a1 a2 R x1 v50 h51) gX3_leave_X1_leaveToWind rfl rfl rfl hdX1_leaveToWind ⟨Nat.le_of_ble_eq_true rfl, Nat.le_of_ble_eq_true rfl⟩ (hP.sub [1, 2] rfl) (hD.sub [1, 2] (by decide) rfl) rfl rfl rfl rfl hl.1 rfl (Nat.le_of_ble_eq_true rfl) dX3_leave_65 ⟨Nat.zero_le _, Nat.zero_le _⟩) hP hD hS hA [1, 2] [0, 3, 4, 5, 6, 7, 8, 9, 10, 11] [0, 10, 11, 1, 2, 3, 4, 5, 6, 7, 8, 9] rfl rfl (by decide) (by decide) (by decide) rfl (fun H locs hP hD hS => ?_)
        refine lv_goto (tgt := 79) hx hb dX3_leave_68 (by decide) ?_
        refine lv_iload_n hx hb dX3_leave_79 rfl (lv_at hl 0 rfl) ?_
        refine kif_eqb (tgt := 87) hx hb dX3_leave_80 (by decide) (fun c52 => ?_) (fun c52 => ?_)
        · have hf := kIfF c52 hf
          refine lv_iconst (v := (0 : Int32)) hx hb dX3_leave_87 (by decide) ?_
          have he := Option.some.inj hf
          subst he
          exact kreti hx hb hr hlk hP hD hS dX3_leave_88
        · have hf := kIfT c52 hf
          refine lv_iconst (v := (1 : Int32)) hx hb dX3_leave_83 (by decide) ?_
          refine lv_goto (tgt := 88) hx hb dX3_leave_84 (by decide) ?_
          have he := Option.some.inj hf
          subst he
          exact kreti hx hb hr hlk hP hD hS dX3_leave_88
    · have hf := kIfT c43 hf
      refine lv_iload_n hx hb dX3_leave_27 rfl (lv_at hl 0 rfl) ?_
      refine kif_neb (tgt := 45) hx hb dX3_leave_28 (by decide) (fun c53 => ?_) (fun c53 => ?_)
      · have hf := kIfT c53 hf
        refine lv_aload_n hx hb dX3_leave_45 rfl (lv_at hl 1 rfl) ?_
        refine va_get (D := D) (ci := 3) (v := .ref a5) (C := RX3) (T := TX3) (N := 4) hx hb hts hinX3 hown hK.1 hP 0 rfl rfl 2 (by decide) hfl22 (fun _ h9 => h9) rfl dX3_leave_46 ?_
        refine lv_aload_n hx hb dX3_leave_49 rfl (lv_at hl 1 rfl) ?_
        refine va_get (D := D) (ci := 3) (v := .ref a1) (C := RX3) (T := TX3) (N := 4) hx hb hts hinX3 hown hK.1 hP 0 rfl rfl 0 (by decide) hfl10 (fun _ h9 => h9) rfl dX3_leave_50 ?_
        obtain ⟨v54, h55, hf⟩ := kBind hf
        refine kgoJ (wr := [(a0, .inr (3, [.ref a1, .ref a3, .ref a5, .ref a7])), (a3, .inr (1, [.ref a4])), (a4, .inl (cI, 132, .inl R2)), (a7, .inr (2, [.ref a8, .int LN, .int PS, .ref a9, .ref a10, .ref a11, .int CM])), (a8, .inl (cI, 80, .inl TB)), (a9, .inl (cI, 20, .inl TC)), (a10, .inl (cI, 20, .inl TW)), (a11, .inl (cI, 20, .inl TG))]) (w2 := (wX3 cI a0 a1 a2 a3 a4 a5 a6 a7 a8 a9 a10 a11 R R2 v54.1 v54.2.1 v54.2.2 TB LN PS TC TW TG CM)) (krunV (wc := (wX0_X1 cI a5 a6 a1 a2 HR HS HN R)) (As := [.ref a1]) (rest := []) (ci := 0) hx hb hml hown hts hK (kX0_keep l D cI a5 a6 a1 a2 HR HS HN R v54 h55) gX3_leave_X0_keep rfl rfl rfl hdX0_keep ⟨Nat.le_of_ble_eq_true rfl, Nat.le_of_ble_eq_true rfl⟩ (hP.sub [5, 6, 1, 2] rfl) (hD.sub [5, 6, 1, 2] (by decide) rfl) rfl rfl rfl rfl hl.1 rfl (Nat.le_of_ble_eq_true rfl) dX3_leave_53 ⟨Nat.zero_le _, Nat.zero_le _⟩) hP hD hS hA [5, 6, 1, 2] [0, 3, 4, 7, 8, 9, 10, 11] [0, 10, 11, 1, 2, 8, 9, 3, 4, 5, 6, 7] rfl rfl (by decide) (by decide) (by decide) rfl (fun H locs hP hD hS => ?_)
        refine lv_iload_n hx hb dX3_leave_56 rfl (lv_at hl 3 rfl) ?_
        refine kif_eqb (tgt := 71) hx hb dX3_leave_57 (by decide) (fun c56 => ?_) (fun c56 => ?_)
        · have hf := kIfF c56 hf
          refine lv_aload_n hx hb dX3_leave_71 rfl (lv_at hl 1 rfl) ?_
          refine va_get (D := D) (ci := 3) (v := .ref a1) (C := RX3) (T := TX3) (N := 4) hx hb hts hinX3 hown hK.1 hP 0 rfl rfl 0 (by decide) hfl10 (fun _ h9 => h9) rfl dX3_leave_72 ?_
          refine lv_iload_n hx hb dX3_leave_75 rfl (lv_at hl 2 rfl) ?_
          obtain ⟨v57, h58, hf⟩ := kBind hf
          refine kgoJ (wr := [(a0, .inr (3, [.ref a1, .ref a3, .ref a5, .ref a7])), (a3, .inr (1, [.ref a4])), (a4, .inl (cI, 132, .inl R2)), (a5, .inr (0, [.ref a6, .int v54.2.1, .int v54.2.2])), (a6, .inl (cI, 660, .inl v54.1)), (a7, .inr (2, [.ref a8, .int LN, .int PS, .ref a9, .ref a10, .ref a11, .int CM])), (a8, .inl (cI, 80, .inl TB)), (a9, .inl (cI, 20, .inl TC)), (a10, .inl (cI, 20, .inl TW)), (a11, .inl (cI, 20, .inl TG))]) (w2 := (wX3 cI a0 a1 a2 a3 a4 a5 a6 a7 a8 a9 a10 a11 v57 R2 v54.1 v54.2.1 v54.2.2 TB LN PS TC TW TG CM)) (krunV (wc := (wX1 cI a1 a2 R)) (As := [.int x1]) (rest := []) (ci := 1) hx hb hml hown hts hK (kX1_takeBack l D cI a1 a2 R x1 v57 h58) gX3_leave_X1_takeBack rfl rfl rfl hdX1_takeBack ⟨Nat.le_of_ble_eq_true rfl, Nat.le_of_ble_eq_true rfl⟩ (hP.sub [1, 2] rfl) (hD.sub [1, 2] (by decide) rfl) rfl rfl rfl rfl hl.1 rfl (Nat.le_of_ble_eq_true rfl) dX3_leave_76 ⟨Nat.zero_le _, Nat.zero_le _⟩) hP hD hS hA [1, 2] [0, 3, 4, 5, 6, 7, 8, 9, 10, 11] [0, 10, 11, 1, 2, 3, 4, 5, 6, 7, 8, 9] rfl rfl (by decide) (by decide) (by decide) rfl (fun H locs hP hD hS => ?_)
          refine lv_iload_n hx hb dX3_leave_79 rfl (lv_at hl 0 rfl) ?_
          refine kif_eqb (tgt := 87) hx hb dX3_leave_80 (by decide) (fun c59 => ?_) (fun c59 => ?_)
          · have hf := kIfF c59 hf
            refine lv_iconst (v := (0 : Int32)) hx hb dX3_leave_87 (by decide) ?_
            have he := Option.some.inj hf
            subst he
            exact kreti hx hb hr hlk hP hD hS dX3_leave_88
          · have hf := kIfT c59 hf
            refine lv_iconst (v := (1 : Int32)) hx hb dX3_leave_83 (by decide) ?_
            refine lv_goto (tgt := 88) hx hb dX3_leave_84 (by decide) ?_
            have he := Option.some.inj hf
            subst he
            exact kreti hx hb hr hlk hP hD hS dX3_leave_88
        · have hf := kIfT c56 hf
          refine lv_aload_n hx hb dX3_leave_60 rfl (lv_at hl 1 rfl) ?_
          refine va_get (D := D) (ci := 3) (v := .ref a1) (C := RX3) (T := TX3) (N := 4) hx hb hts hinX3 hown hK.1 hP 0 rfl rfl 0 (by decide) hfl10 (fun _ h9 => h9) rfl dX3_leave_61 ?_
          refine lv_iload_n hx hb dX3_leave_64 rfl (lv_at hl 2 rfl) ?_
          obtain ⟨v60, h61, hf⟩ := kBind hf
          refine kgoJ (wr := [(a0, .inr (3, [.ref a1, .ref a3, .ref a5, .ref a7])), (a3, .inr (1, [.ref a4])), (a4, .inl (cI, 132, .inl R2)), (a5, .inr (0, [.ref a6, .int v54.2.1, .int v54.2.2])), (a6, .inl (cI, 660, .inl v54.1)), (a7, .inr (2, [.ref a8, .int LN, .int PS, .ref a9, .ref a10, .ref a11, .int CM])), (a8, .inl (cI, 80, .inl TB)), (a9, .inl (cI, 20, .inl TC)), (a10, .inl (cI, 20, .inl TW)), (a11, .inl (cI, 20, .inl TG))]) (w2 := (wX3 cI a0 a1 a2 a3 a4 a5 a6 a7 a8 a9 a10 a11 v60 R2 v54.1 v54.2.1 v54.2.2 TB LN PS TC TW TG CM)) (krunV (wc := (wX1 cI a1 a2 R)) (As := [.int x1]) (rest := []) (ci := 1) hx hb hml hown hts hK (kX1_leaveToWind l D cI a1 a2 R x1 v60 h61) gX3_leave_X1_leaveToWind rfl rfl rfl hdX1_leaveToWind ⟨Nat.le_of_ble_eq_true rfl, Nat.le_of_ble_eq_true rfl⟩ (hP.sub [1, 2] rfl) (hD.sub [1, 2] (by decide) rfl) rfl rfl rfl rfl hl.1 rfl (Nat.le_of_ble_eq_true rfl) dX3_leave_65 ⟨Nat.zero_le _, Nat.zero_le _⟩) hP hD hS hA [1, 2] [0, 3, 4, 5, 6, 7, 8, 9, 10, 11] [0, 10, 11, 1, 2, 3, 4, 5, 6, 7, 8, 9] rfl rfl (by decide) (by decide) (by decide) rfl (fun H locs hP hD hS => ?_)
          refine lv_goto (tgt := 79) hx hb dX3_leave_68 (by decide) ?_
          refine lv_iload_n hx hb dX3_leave_79 rfl (lv_at hl 0 rfl) ?_
          refine kif_eqb (tgt := 87) hx hb dX3_leave_80 (by decide) (fun c62 => ?_) (fun c62 => ?_)
          · have hf := kIfF c62 hf
            refine lv_iconst (v := (0 : Int32)) hx hb dX3_leave_87 (by decide) ?_
            have he := Option.some.inj hf
            subst he
            exact kreti hx hb hr hlk hP hD hS dX3_leave_88
          · have hf := kIfT c62 hf
            refine lv_iconst (v := (1 : Int32)) hx hb dX3_leave_83 (by decide) ?_
            refine lv_goto (tgt := 88) hx hb dX3_leave_84 (by decide) ?_
            have he := Option.some.inj hf
            subst he
            exact kreti hx hb hr hlk hP hD hS dX3_leave_88
      · have hf := kIfF c53 hf
        refine lv_aload_n hx hb dX3_leave_31 rfl (lv_at hl 1 rfl) ?_
        refine va_get (D := D) (ci := 3) (v := .ref a1) (C := RX3) (T := TX3) (N := 4) hx hb hts hinX3 hown hK.1 hP 0 rfl rfl 0 (by decide) hfl10 (fun _ h9 => h9) rfl dX3_leave_32 ?_
        refine lv_iload_n hx hb dX3_leave_35 rfl (lv_at hl 2 rfl) ?_
        obtain ⟨v63, h64, hf⟩ := kBind hf
        refine kgoR (krunV (wc := (wX1 cI a1 a2 R)) (As := [.int x1]) (rest := []) (ci := 1) hx hb hml hown hts hK (kX1_canBeLeft l D cI fu a1 a2 R x1 v63 h64) gX3_leave_X1_canBeLeft rfl rfl rfl hdX1_canBeLeft ⟨Nat.le_of_ble_eq_true rfl, Nat.le_of_ble_eq_true rfl⟩ (hP.sub [1, 2] rfl) (hD.sub [1, 2] (by decide) rfl) rfl rfl rfl rfl hl.1 rfl (Nat.le_of_ble_eq_true rfl) dX3_leave_36 ⟨Nat.zero_le _, Nat.zero_le _⟩) hP hD hS hA [1, 2] rfl (fun H locs hP hS => ?_)
        refine kif_neb (tgt := 45) hx hb dX3_leave_39 (by decide) (fun c65 => ?_) (fun c65 => ?_)
        · have hf := kIfT c65 hf
          refine lv_aload_n hx hb dX3_leave_45 rfl (lv_at hl 1 rfl) ?_
          refine va_get (D := D) (ci := 3) (v := .ref a5) (C := RX3) (T := TX3) (N := 4) hx hb hts hinX3 hown hK.1 hP 0 rfl rfl 2 (by decide) hfl22 (fun _ h9 => h9) rfl dX3_leave_46 ?_
          refine lv_aload_n hx hb dX3_leave_49 rfl (lv_at hl 1 rfl) ?_
          refine va_get (D := D) (ci := 3) (v := .ref a1) (C := RX3) (T := TX3) (N := 4) hx hb hts hinX3 hown hK.1 hP 0 rfl rfl 0 (by decide) hfl10 (fun _ h9 => h9) rfl dX3_leave_50 ?_
          obtain ⟨v66, h67, hf⟩ := kBind hf
          refine kgoJ (wr := [(a0, .inr (3, [.ref a1, .ref a3, .ref a5, .ref a7])), (a3, .inr (1, [.ref a4])), (a4, .inl (cI, 132, .inl R2)), (a7, .inr (2, [.ref a8, .int LN, .int PS, .ref a9, .ref a10, .ref a11, .int CM])), (a8, .inl (cI, 80, .inl TB)), (a9, .inl (cI, 20, .inl TC)), (a10, .inl (cI, 20, .inl TW)), (a11, .inl (cI, 20, .inl TG))]) (w2 := (wX3 cI a0 a1 a2 a3 a4 a5 a6 a7 a8 a9 a10 a11 R R2 v66.1 v66.2.1 v66.2.2 TB LN PS TC TW TG CM)) (krunV (wc := (wX0_X1 cI a5 a6 a1 a2 HR HS HN R)) (As := [.ref a1]) (rest := []) (ci := 0) hx hb hml hown hts hK (kX0_keep l D cI a5 a6 a1 a2 HR HS HN R v66 h67) gX3_leave_X0_keep rfl rfl rfl hdX0_keep ⟨Nat.le_of_ble_eq_true rfl, Nat.le_of_ble_eq_true rfl⟩ (hP.sub [5, 6, 1, 2] rfl) (hD.sub [5, 6, 1, 2] (by decide) rfl) rfl rfl rfl rfl hl.1 rfl (Nat.le_of_ble_eq_true rfl) dX3_leave_53 ⟨Nat.zero_le _, Nat.zero_le _⟩) hP hD hS hA [5, 6, 1, 2] [0, 3, 4, 7, 8, 9, 10, 11] [0, 10, 11, 1, 2, 8, 9, 3, 4, 5, 6, 7] rfl rfl (by decide) (by decide) (by decide) rfl (fun H locs hP hD hS => ?_)
          refine lv_iload_n hx hb dX3_leave_56 rfl (lv_at hl 3 rfl) ?_
          refine kif_eqb (tgt := 71) hx hb dX3_leave_57 (by decide) (fun c68 => ?_) (fun c68 => ?_)
          · have hf := kIfF c68 hf
            refine lv_aload_n hx hb dX3_leave_71 rfl (lv_at hl 1 rfl) ?_
            refine va_get (D := D) (ci := 3) (v := .ref a1) (C := RX3) (T := TX3) (N := 4) hx hb hts hinX3 hown hK.1 hP 0 rfl rfl 0 (by decide) hfl10 (fun _ h9 => h9) rfl dX3_leave_72 ?_
            refine lv_iload_n hx hb dX3_leave_75 rfl (lv_at hl 2 rfl) ?_
            obtain ⟨v69, h70, hf⟩ := kBind hf
            refine kgoJ (wr := [(a0, .inr (3, [.ref a1, .ref a3, .ref a5, .ref a7])), (a3, .inr (1, [.ref a4])), (a4, .inl (cI, 132, .inl R2)), (a5, .inr (0, [.ref a6, .int v66.2.1, .int v66.2.2])), (a6, .inl (cI, 660, .inl v66.1)), (a7, .inr (2, [.ref a8, .int LN, .int PS, .ref a9, .ref a10, .ref a11, .int CM])), (a8, .inl (cI, 80, .inl TB)), (a9, .inl (cI, 20, .inl TC)), (a10, .inl (cI, 20, .inl TW)), (a11, .inl (cI, 20, .inl TG))]) (w2 := (wX3 cI a0 a1 a2 a3 a4 a5 a6 a7 a8 a9 a10 a11 v69 R2 v66.1 v66.2.1 v66.2.2 TB LN PS TC TW TG CM)) (krunV (wc := (wX1 cI a1 a2 R)) (As := [.int x1]) (rest := []) (ci := 1) hx hb hml hown hts hK (kX1_takeBack l D cI a1 a2 R x1 v69 h70) gX3_leave_X1_takeBack rfl rfl rfl hdX1_takeBack ⟨Nat.le_of_ble_eq_true rfl, Nat.le_of_ble_eq_true rfl⟩ (hP.sub [1, 2] rfl) (hD.sub [1, 2] (by decide) rfl) rfl rfl rfl rfl hl.1 rfl (Nat.le_of_ble_eq_true rfl) dX3_leave_76 ⟨Nat.zero_le _, Nat.zero_le _⟩) hP hD hS hA [1, 2] [0, 3, 4, 5, 6, 7, 8, 9, 10, 11] [0, 10, 11, 1, 2, 3, 4, 5, 6, 7, 8, 9] rfl rfl (by decide) (by decide) (by decide) rfl (fun H locs hP hD hS => ?_)
            refine lv_iload_n hx hb dX3_leave_79 rfl (lv_at hl 0 rfl) ?_
            refine kif_eqb (tgt := 87) hx hb dX3_leave_80 (by decide) (fun c71 => ?_) (fun c71 => ?_)
            · have hf := kIfF c71 hf
              refine lv_iconst (v := (0 : Int32)) hx hb dX3_leave_87 (by decide) ?_
              have he := Option.some.inj hf
              subst he
              exact kreti hx hb hr hlk hP hD hS dX3_leave_88
            · have hf := kIfT c71 hf
              refine lv_iconst (v := (1 : Int32)) hx hb dX3_leave_83 (by decide) ?_
              refine lv_goto (tgt := 88) hx hb dX3_leave_84 (by decide) ?_
              have he := Option.some.inj hf
              subst he
              exact kreti hx hb hr hlk hP hD hS dX3_leave_88
          · have hf := kIfT c68 hf
            refine lv_aload_n hx hb dX3_leave_60 rfl (lv_at hl 1 rfl) ?_
            refine va_get (D := D) (ci := 3) (v := .ref a1) (C := RX3) (T := TX3) (N := 4) hx hb hts hinX3 hown hK.1 hP 0 rfl rfl 0 (by decide) hfl10 (fun _ h9 => h9) rfl dX3_leave_61 ?_
            refine lv_iload_n hx hb dX3_leave_64 rfl (lv_at hl 2 rfl) ?_
            obtain ⟨v72, h73, hf⟩ := kBind hf
            refine kgoJ (wr := [(a0, .inr (3, [.ref a1, .ref a3, .ref a5, .ref a7])), (a3, .inr (1, [.ref a4])), (a4, .inl (cI, 132, .inl R2)), (a5, .inr (0, [.ref a6, .int v66.2.1, .int v66.2.2])), (a6, .inl (cI, 660, .inl v66.1)), (a7, .inr (2, [.ref a8, .int LN, .int PS, .ref a9, .ref a10, .ref a11, .int CM])), (a8, .inl (cI, 80, .inl TB)), (a9, .inl (cI, 20, .inl TC)), (a10, .inl (cI, 20, .inl TW)), (a11, .inl (cI, 20, .inl TG))]) (w2 := (wX3 cI a0 a1 a2 a3 a4 a5 a6 a7 a8 a9 a10 a11 v72 R2 v66.1 v66.2.1 v66.2.2 TB LN PS TC TW TG CM)) (krunV (wc := (wX1 cI a1 a2 R)) (As := [.int x1]) (rest := []) (ci := 1) hx hb hml hown hts hK (kX1_leaveToWind l D cI a1 a2 R x1 v72 h73) gX3_leave_X1_leaveToWind rfl rfl rfl hdX1_leaveToWind ⟨Nat.le_of_ble_eq_true rfl, Nat.le_of_ble_eq_true rfl⟩ (hP.sub [1, 2] rfl) (hD.sub [1, 2] (by decide) rfl) rfl rfl rfl rfl hl.1 rfl (Nat.le_of_ble_eq_true rfl) dX3_leave_65 ⟨Nat.zero_le _, Nat.zero_le _⟩) hP hD hS hA [1, 2] [0, 3, 4, 5, 6, 7, 8, 9, 10, 11] [0, 10, 11, 1, 2, 3, 4, 5, 6, 7, 8, 9] rfl rfl (by decide) (by decide) (by decide) rfl (fun H locs hP hD hS => ?_)
            refine lv_goto (tgt := 79) hx hb dX3_leave_68 (by decide) ?_
            refine lv_iload_n hx hb dX3_leave_79 rfl (lv_at hl 0 rfl) ?_
            refine kif_eqb (tgt := 87) hx hb dX3_leave_80 (by decide) (fun c74 => ?_) (fun c74 => ?_)
            · have hf := kIfF c74 hf
              refine lv_iconst (v := (0 : Int32)) hx hb dX3_leave_87 (by decide) ?_
              have he := Option.some.inj hf
              subst he
              exact kreti hx hb hr hlk hP hD hS dX3_leave_88
            · have hf := kIfT c74 hf
              refine lv_iconst (v := (1 : Int32)) hx hb dX3_leave_83 (by decide) ?_
              refine lv_goto (tgt := 88) hx hb dX3_leave_84 (by decide) ?_
              have he := Option.some.inj hf
              subst he
              exact kreti hx hb hr hlk hP hD hS dX3_leave_88
        · have hf := kIfF c65 hf
          refine lv_bipush (v := (-103 : Int32)) hx hb dX3_leave_42 (by decide) ?_
          have he := Option.some.inj hf
          subst he
          exact kreti hx hb hr hlk hP hD hS dX3_leave_44
  · have hf := kIfF c40 hf
    refine lv_bipush (v := (-101 : Int32)) hx hb dX3_leave_11 (by decide) ?_
    have he := Option.some.inj hf
    subst he
    exact kreti hx hb hr hlk hP hD hS dX3_leave_13
set_option maxHeartbeats 4000000 in
set_option maxRecDepth 100000 in
theorem kX1_changeWind (l : Launch) (D : va_G) (cI : ClassId) (a0 a1 : Nat) (R : (Nat → Int32)) (x1 : Int32) (o : Int32 × (Nat → Int32)) (hf : fX1_changeWind R x1 = some o) : Ct l yX1_changeWind wsX1_changeWind { frames := 0, cells := 0, slots := 0, locals := 0 } D cI [.ref a0, .int x1] (wX1 cI a0 a1 R) (wX1 cI a0 a1 o.2) (some (.int o.1)) := by
  refine Ct.of (cc := cX1_changeWind) (maxL := 3) (ret := (some .int)) (by decide) rfl (Nat.le_of_ble_eq_true rfl) ?_
  intro p e s m args below meth c A F hP hD hS ls hl
  obtain ⟨hx, hb, hml, hr, hown, hts, hlk, hK, hA⟩ := F
  have hown : s.vm.findClass RX1 = some m.cls := hown
  have hl : lv_has ls 3 [(0, .ref a0), (1, .int x1)] := hl
  have hinX1 : ∀ w ∈ wsX10, w ∈ wsX1_changeWind := by decide +kernel
  have hfl11 := hts (.fieldLink RX1 11 "CraneGuard$Site" "row" "[I") (by decide +kernel)
  unfold fX1_changeWind at hf
  refine lv_aload_n hx hb dX1_changeWind_0 rfl (lv_at hl 0 rfl) ?_
  refine va_get (D := D) (ci := 1) (v := .ref a1) (C := RX1) (T := TX1) (N := 1) hx hb hts hinX1 hown hK.1 hP 0 rfl rfl 0 (by decide) hfl11 (fun _ h9 => h9) rfl dX1_changeWind_1 ?_
  refine lv_iconst (v := (1 : Int32)) hx hb dX1_changeWind_4 (by decide) ?_
  obtain ⟨v5, h6, hf⟩ := kBind hf
  refine krd hx hb hK hP 1 rfl h6 dX1_changeWind_5 ?_
  refine lv_istore_n (lv' := [(2, .int v5), (0, .ref a0), (1, .int x1)]) hx hb dX1_changeWind_6 rfl hl (by decide) rfl (fun ls hl => ?_)
  refine lv_aload_n hx hb dX1_changeWind_7 rfl (lv_at hl 1 rfl) ?_
  refine va_get (D := D) (ci := 1) (v := .ref a1) (C := RX1) (T := TX1) (N := 1) hx hb hts hinX1 hown hK.1 hP 0 rfl rfl 0 (by decide) hfl11 (fun _ h9 => h9) rfl dX1_changeWind_8 ?_
  refine lv_iconst (v := (1 : Int32)) hx hb dX1_changeWind_11 (by decide) ?_
  refine lv_iload_n hx hb dX1_changeWind_12 rfl (lv_at hl 2 rfl) ?_
  obtain ⟨v7, h8, hf⟩ := kBind hf
  refine kwr hx hb hK hP hD hS 1 rfl h8 (wX1 cI a0 a1 v7) rfl dX1_changeWind_13 (fun H locs hP hD hS => ?_)
  refine lv_iload_n hx hb dX1_changeWind_14 rfl (lv_at hl 0 rfl) ?_
  have he := Option.some.inj hf
  subst he
  exact kreti hx hb hr hlk hP hD hS dX1_changeWind_15
set_option maxHeartbeats 4000000 in
set_option maxRecDepth 100000 in
theorem kX3_setWind (l : Launch) (D : va_G) (cI : ClassId) (a0 a1 a2 a3 a4 a5 a6 a7 a8 a9 a10 a11 : Nat) (R : (Nat → Int32)) (R2 : (Nat → Int32)) (HR : (Nat → Int32)) (HS : Int32) (HN : Int32) (TB : (Nat → Int32)) (LN : Int32) (PS : Int32) (TC : (Nat → Int32)) (TW : (Nat → Int32)) (TG : (Nat → Int32)) (CM : Int32) (x1 : Int32) (o : Int32 × (Nat → Int32) × (Nat → Int32) × Int32 × Int32) (hf : fX3_setWind R HR HS HN x1 = some o) : Ct l yX3_setWind wsX3_setWind { frames := 3, cells := 0, slots := 0, locals := 61 } D cI [.ref a0, .int x1] (wX3 cI a0 a1 a2 a3 a4 a5 a6 a7 a8 a9 a10 a11 R R2 HR HS HN TB LN PS TC TW TG CM) (wX3 cI a0 a1 a2 a3 a4 a5 a6 a7 a8 a9 a10 a11 o.2.1 R2 o.2.2.1 o.2.2.2.1 o.2.2.2.2 TB LN PS TC TW TG CM) (some (.int o.1)) := by
  refine Ct.of (cc := cX3_setWind) (maxL := 2) (ret := (some .int)) (by decide) rfl (Nat.le_of_ble_eq_true rfl) ?_
  intro p e s m args below meth c A F hP hD hS ls hl
  obtain ⟨hx, hb, hml, hr, hown, hts, hlk, hK, hA⟩ := F
  have hown : s.vm.findClass RX3 = some m.cls := hown
  have hl : lv_has ls 2 [(0, .ref a0), (1, .int x1)] := hl
  have hinX3 : ∀ w ∈ wsX30, w ∈ wsX3_setWind := by decide +kernel
  have hfl10 := hts (.fieldLink RX3 10 "CraneGuard" "site" "LCraneGuard$Site;") (by decide +kernel)
  have hfl22 := hts (.fieldLink RX3 22 "CraneGuard" "history" "LCraneGuard$History;") (by decide +kernel)
  unfold fX3_setWind at hf
  refine lv_iload_n hx hb dX3_setWind_0 rfl (lv_at hl 1 rfl) ?_
  obtain ⟨v8, h9, hf⟩ := kBind hf
  refine kgoR (krunS (wc := ([] : va_W)) (As := [.int x1]) (rest := []) hx hb hml hown hts hK (kX3_isAngle l D cI x1 v8 h9) gX3_setWind_X3_isAngle rfl rfl rfl hdX3_isAngle ⟨Nat.le_of_ble_eq_true rfl, Nat.le_of_ble_eq_true rfl⟩ k_P0 (k_D0 A) rfl hl.1 rfl (Nat.le_of_ble_eq_true rfl) dX3_setWind_1 ⟨Nat.zero_le _, Nat.zero_le _⟩) hP hD hS hA [] rfl (fun H locs hP hS => ?_)
  refine kif_neb (tgt := 10) hx hb dX3_setWind_4 (by decide) (fun c10 => ?_) (fun c10 => ?_)
  · have hf := kIfT c10 hf
    refine lv_aload_n hx hb dX3_setWind_10 rfl (lv_at hl 0 rfl) ?_
    refine va_get (D := D) (ci := 3) (v := .ref a5) (C := RX3) (T := TX3) (N := 4) hx hb hts hinX3 hown hK.1 hP 0 rfl rfl 2 (by decide) hfl22 (fun _ h9 => h9) rfl dX3_setWind_11 ?_
    refine lv_aload_n hx hb dX3_setWind_14 rfl (lv_at hl 0 rfl) ?_
    refine va_get (D := D) (ci := 3) (v := .ref a1) (C := RX3) (T := TX3) (N := 4) hx hb hts hinX3 hown hK.1 hP 0 rfl rfl 0 (by decide) hfl10 (fun _ h9 => h9) rfl dX3_setWind_15 ?_
    obtain ⟨v11, h12, hf⟩ := kBind hf
    refine kgoJ (wr := [(a0, .inr (3, [.ref a1, .ref a3, .ref a5, .ref a7])), (a3, .inr (1, [.ref a4])), (a4, .inl (cI, 132, .inl R2)), (a7, .inr (2, [.ref a8, .int LN, .int PS, .ref a9, .ref a10, .ref a11, .int CM])), (a8, .inl (cI, 80, .inl TB)), (a9, .inl (cI, 20, .inl TC)), (a10, .inl (cI, 20, .inl TW)), (a11, .inl (cI, 20, .inl TG))]) (w2 := (wX3 cI a0 a1 a2 a3 a4 a5 a6 a7 a8 a9 a10 a11 R R2 v11.1 v11.2.1 v11.2.2 TB LN PS TC TW TG CM)) (krunV (wc := (wX0_X1 cI a5 a6 a1 a2 HR HS HN R)) (As := [.ref a1]) (rest := []) (ci := 0) hx hb hml hown hts hK (kX0_keep l D cI a5 a6 a1 a2 HR HS HN R v11 h12) gX3_setWind_X0_keep rfl rfl rfl hdX0_keep ⟨Nat.le_of_ble_eq_true rfl, Nat.le_of_ble_eq_true rfl⟩ (hP.sub [5, 6, 1, 2] rfl) (hD.sub [5, 6, 1, 2] (by decide) rfl) rfl rfl rfl rfl hl.1 rfl (Nat.le_of_ble_eq_true rfl) dX3_setWind_18 ⟨Nat.zero_le _, Nat.zero_le _⟩) hP hD hS hA [5, 6, 1, 2] [0, 3, 4, 7, 8, 9, 10, 11] [0, 10, 11, 1, 2, 8, 9, 3, 4, 5, 6, 7] rfl rfl (by decide) (by decide) (by decide) rfl (fun H locs hP hD hS => ?_)
    refine lv_aload_n hx hb dX3_setWind_21 rfl (lv_at hl 0 rfl) ?_
    refine va_get (D := D) (ci := 3) (v := .ref a1) (C := RX3) (T := TX3) (N := 4) hx hb hts hinX3 hown hK.1 hP 0 rfl rfl 0 (by decide) hfl10 (fun _ h9 => h9) rfl dX3_setWind_22 ?_
    refine lv_iload_n hx hb dX3_setWind_25 rfl (lv_at hl 1 rfl) ?_
    obtain ⟨v13, h14, hf⟩ := kBind hf
    refine kgoJ (wr := [(a0, .inr (3, [.ref a1, .ref a3, .ref a5, .ref a7])), (a3, .inr (1, [.ref a4])), (a4, .inl (cI, 132, .inl R2)), (a5, .inr (0, [.ref a6, .int v11.2.1, .int v11.2.2])), (a6, .inl (cI, 660, .inl v11.1)), (a7, .inr (2, [.ref a8, .int LN, .int PS, .ref a9, .ref a10, .ref a11, .int CM])), (a8, .inl (cI, 80, .inl TB)), (a9, .inl (cI, 20, .inl TC)), (a10, .inl (cI, 20, .inl TW)), (a11, .inl (cI, 20, .inl TG))]) (w2 := (wX3 cI a0 a1 a2 a3 a4 a5 a6 a7 a8 a9 a10 a11 v13.2 R2 v11.1 v11.2.1 v11.2.2 TB LN PS TC TW TG CM)) (krunV (wc := (wX1 cI a1 a2 R)) (As := [.int x1]) (rest := []) (ci := 1) hx hb hml hown hts hK (kX1_changeWind l D cI a1 a2 R x1 v13 h14) gX3_setWind_X1_changeWind rfl rfl rfl hdX1_changeWind ⟨Nat.le_of_ble_eq_true rfl, Nat.le_of_ble_eq_true rfl⟩ (hP.sub [1, 2] rfl) (hD.sub [1, 2] (by decide) rfl) rfl rfl rfl rfl hl.1 rfl (Nat.le_of_ble_eq_true rfl) dX3_setWind_26 ⟨Nat.zero_le _, Nat.zero_le _⟩) hP hD hS hA [1, 2] [0, 3, 4, 5, 6, 7, 8, 9, 10, 11] [0, 10, 11, 1, 2, 3, 4, 5, 6, 7, 8, 9] rfl rfl (by decide) (by decide) (by decide) rfl (fun H locs hP hD hS => ?_)
    have he := Option.some.inj hf
    subst he
    exact kreti hx hb hr hlk hP hD hS dX3_setWind_29
  · have hf := kIfF c10 hf
    refine lv_bipush (v := (-102 : Int32)) hx hb dX3_setWind_7 (by decide) ?_
    have he := Option.some.inj hf
    subst he
    exact kreti hx hb hr hlk hP hD hS dX3_setWind_9
