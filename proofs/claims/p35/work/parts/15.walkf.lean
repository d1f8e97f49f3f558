set_option maxHeartbeats 4000000 in
set_option maxRecDepth 100000 in
theorem kX3_cycle (l : Launch) (D : va_G) (cI : ClassId) (fu : Nat) (a0 a1 a2 a3 a4 a5 a6 a7 a8 a9 a10 a11 : Nat) (R : (Nat → Int32)) (R2 : (Nat → Int32)) (HR : (Nat → Int32)) (HS : Int32) (HN : Int32) (TB : (Nat → Int32)) (LN : Int32) (PS : Int32) (TC : (Nat → Int32)) (TW : (Nat → Int32)) (TG : (Nat → Int32)) (CM : Int32) (o : Int32) (hf : fX3_cycle fu R = some o) : Ct l yX3_cycle wsX3_cycle { frames := 5, cells := 0, slots := 0, locals := 116 } D cI [.ref a0] (wX3 cI a0 a1 a2 a3 a4 a5 a6 a7 a8 a9 a10 a11 R R2 HR HS HN TB LN PS TC TW TG CM) (wX3 cI a0 a1 a2 a3 a4 a5 a6 a7 a8 a9 a10 a11 R R2 HR HS HN TB LN PS TC TW TG CM) (some (.int o)) := by
  refine Ct.of (cc := cX3_cycle) (maxL := 1) (ret := (some .int)) (by decide) rfl (Nat.le_of_ble_eq_true rfl) ?_
  intro p e s m args below meth c A F hP hD hS ls hl
  obtain ⟨hx, hb, hml, hr, hown, hts, hlk, hK, hA⟩ := F
  have hown : s.vm.findClass RX3 = some m.cls := hown
  have hl : lv_has ls 1 [(0, .ref a0)] := hl
  have hinX3 : ∀ w ∈ wsX30, w ∈ wsX3_cycle := by decide +kernel
  have hfl10 := hts (.fieldLink RX3 10 "CraneGuard" "site" "LCraneGuard$Site;") (by decide +kernel)
  unfold fX3_cycle at hf
  refine lv_aload_n hx hb dX3_cycle_0 rfl (lv_at hl 0 rfl) ?_
  refine va_get (D := D) (ci := 3) (v := .ref a1) (C := RX3) (T := TX3) (N := 4) hx hb hts hinX3 hown hK.1 hP 0 rfl rfl 0 (by decide) hfl10 (fun _ h9 => h9) rfl dX3_cycle_1 ?_
  obtain ⟨v3, h4, hf⟩ := kBind hf
  refine kgoR (krunV (wc := (wX1 cI a1 a2 R)) (As := []) (rest := []) (ci := 1) hx hb hml hown hts hK (kX1_cycleSet l D cI fu a1 a2 R v3 h4) gX3_cycle_X1_cycleSet rfl rfl rfl hdX1_cycleSet ⟨Nat.le_of_ble_eq_true rfl, Nat.le_of_ble_eq_true rfl⟩ (hP.sub [1, 2] rfl) (hD.sub [1, 2] (by decide) rfl) rfl rfl rfl rfl hl.1 rfl (Nat.le_of_ble_eq_true rfl) dX3_cycle_4 ⟨Nat.zero_le _, Nat.zero_le _⟩) hP hD hS hA [1, 2] rfl (fun H locs hP hS => ?_)
  have he := Option.some.inj hf
  subst he
  exact kreti hx hb hr hlk hP hD hS dX3_cycle_7
set_option maxHeartbeats 4000000 in
set_option maxRecDepth 100000 in
theorem kX3_blocker (l : Launch) (D : va_G) (cI : ClassId) (fu : Nat) (a0 a1 a2 a3 a4 a5 a6 a7 a8 a9 a10 a11 : Nat) (R : (Nat → Int32)) (R2 : (Nat → Int32)) (HR : (Nat → Int32)) (HS : Int32) (HN : Int32) (TB : (Nat → Int32)) (LN : Int32) (PS : Int32) (TC : (Nat → Int32)) (TW : (Nat → Int32)) (TG : (Nat → Int32)) (CM : Int32) (x1 : Int32) (o : Int32) (hf : fX3_blocker fu R x1 = some o) : Ct l yX3_blocker wsX3_blocker { frames := 3, cells := 0, slots := 0, locals := 71 } D cI [.ref a0, .int x1] (wX3 cI a0 a1 a2 a3 a4 a5 a6 a7 a8 a9 a10 a11 R R2 HR HS HN TB LN PS TC TW TG CM) (wX3 cI a0 a1 a2 a3 a4 a5 a6 a7 a8 a9 a10 a11 R R2 HR HS HN TB LN PS TC TW TG CM) (some (.int o)) := by
  refine Ct.of (cc := cX3_blocker) (maxL := 2) (ret := (some .int)) (by decide) rfl (Nat.le_of_ble_eq_true rfl) ?_
  intro p e s m args below meth c A F hP hD hS ls hl
  obtain ⟨hx, hb, hml, hr, hown, hts, hlk, hK, hA⟩ := F
  have hown : s.vm.findClass RX3 = some m.cls := hown
  have hl : lv_has ls 2 [(0, .ref a0), (1, .int x1)] := hl
  have hinX3 : ∀ w ∈ wsX30, w ∈ wsX3_blocker := by decide +kernel
  have hfl10 := hts (.fieldLink RX3 10 "CraneGuard" "site" "LCraneGuard$Site;") (by decide +kernel)
  unfold fX3_blocker at hf
  refine lv_aload_n hx hb dX3_blocker_0 rfl (lv_at hl 0 rfl) ?_
  refine va_get (D := D) (ci := 3) (v := .ref a1) (C := RX3) (T := TX3) (N := 4) hx hb hts hinX3 hown hK.1 hP 0 rfl rfl 0 (by decide) hfl10 (fun _ h9 => h9) rfl dX3_blocker_1 ?_
  refine lv_iload_n hx hb dX3_blocker_4 rfl (lv_at hl 1 rfl) ?_
  obtain ⟨v6, h7, hf⟩ := kBind hf
  refine kgoR (krunV (wc := (wX1 cI a1 a2 R)) (As := [.int x1]) (rest := []) (ci := 1) hx hb hml hown hts hK (kX1_hasCrane l D cI a1 a2 R x1 v6 h7) gX3_blocker_X1_hasCrane rfl rfl rfl hdX1_hasCrane ⟨Nat.le_of_ble_eq_true rfl, Nat.le_of_ble_eq_true rfl⟩ (hP.sub [1, 2] rfl) (hD.sub [1, 2] (by decide) rfl) rfl rfl rfl rfl hl.1 rfl (Nat.le_of_ble_eq_true rfl) dX3_blocker_5 ⟨Nat.zero_le _, Nat.zero_le _⟩) hP hD hS hA [1, 2] rfl (fun H locs hP hS => ?_)
  refine kif_neb (tgt := 14) hx hb dX3_blocker_8 (by decide) (fun c8 => ?_) (fun c8 => ?_)
  · have hf := kIfT c8 hf
    refine lv_aload_n hx hb dX3_blocker_14 rfl (lv_at hl 0 rfl) ?_
    refine va_get (D := D) (ci := 3) (v := .ref a1) (C := RX3) (T := TX3) (N := 4) hx hb hts hinX3 hown hK.1 hP 0 rfl rfl 0 (by decide) hfl10 (fun _ h9 => h9) rfl dX3_blocker_15 ?_
    refine lv_iload_n hx hb dX3_blocker_18 rfl (lv_at hl 1 rfl) ?_
    obtain ⟨v9, h10, hf⟩ := kBind hf
    refine kgoR (krunV (wc := (wX1 cI a1 a2 R)) (As := [.int x1]) (rest := []) (ci := 1) hx hb hml hown hts hK (kX1_blockerOf l D cI fu a1 a2 R x1 v9 h10) gX3_blocker_X1_blockerOf rfl rfl rfl hdX1_blockerOf ⟨Nat.le_of_ble_eq_true rfl, Nat.le_of_ble_eq_true rfl⟩ (hP.sub [1, 2] rfl) (hD.sub [1, 2] (by decide) rfl) rfl rfl rfl rfl hl.1 rfl (Nat.le_of_ble_eq_true rfl) dX3_blocker_19 ⟨Nat.zero_le _, Nat.zero_le _⟩) hP hD hS hA [1, 2] rfl (fun H locs hP hS => ?_)
    have he := Option.some.inj hf
    subst he
    exact kreti hx hb hr hlk hP hD hS dX3_blocker_22
  · have hf := kIfF c8 hf
    refine lv_bipush (v := (-101 : Int32)) hx hb dX3_blocker_11 (by decide) ?_
    have he := Option.some.inj hf
    subst he
    exact kreti hx hb hr hlk hP hD hS dX3_blocker_13
set_option maxHeartbeats 4000000 in
set_option maxRecDepth 100000 in
theorem kL_isSound (l : Launch) (D : va_G) (cI : ClassId) (fu : Nat) (a0 a1 a2 a3 a4 a5 a6 a7 a8 a9 a10 a11 : Nat) (R : (Nat → Int32)) (R2 : (Nat → Int32)) (HR : (Nat → Int32)) (HS : Int32) (HN : Int32) (TB : (Nat → Int32)) (LN : Int32) (PS : Int32) (TC : (Nat → Int32)) (TW : (Nat → Int32)) (TG : (Nat → Int32)) (CM : Int32) (x1 : Bool) (o : Bool) (hf : fL_isSound fu R x1 = some o) : Ct l yL_isSound wsL_isSound { frames := 6, cells := 0, slots := 0, locals := 136 } D cI [.ref a0, .int (bI x1)] (wX3 cI a0 a1 a2 a3 a4 a5 a6 a7 a8 a9 a10 a11 R R2 HR HS HN TB LN PS TC TW TG CM) (wX3 cI a0 a1 a2 a3 a4 a5 a6 a7 a8 a9 a10 a11 R R2 HR HS HN TB LN PS TC TW TG CM) (some (.int (bI o))) := by
  refine Ct.of (cc := cL_isSound) (maxL := 7) (ret := (some .boolean)) (by decide) rfl (Nat.le_of_ble_eq_true rfl) ?_
  intro p e s m args below meth c A F hP hD hS ls hl
  obtain ⟨hx, hb, hml, hr, hown, hts, hlk, hK, hA⟩ := F
  have hown : s.vm.findClass RL = some m.cls := hown
  have hl : lv_has ls 7 [(0, .ref a0), (1, .int (bI x1))] := hl
  unfold fL_isSound at hf
  refine kcut (D := D) (A := A) (fun K => ∀  (y3 : Int32) (y2 : Int32) (y1 : Bool), fL_isSound_J143 fu R = some o → K (wX3 cI a0 a1 a2 a3 a4 a5 a6 a7 a8 a9 a10 a11 R R2 HR HS HN TB LN PS TC TW TG CM) 7 [(3, .int y3), (2, .int y2), (0, .ref a0), (1, .int (bI y1))] 143) ?_ (fun hJ143 => ?_)
  · intro y3 y2 y1 hf H locs ls hP hD hS hl
    unfold fL_isSound_J143 at hf
    have hP : va_P D vwCl (wX3 cI a0 a1 a2 a3 a4 a5 a6 a7 a8 a9 a10 a11 R R2 HR HS HN TB LN PS TC TW TG CM) H := hP
    have hD : va_D A (wX3 cI a0 a1 a2 a3 a4 a5 a6 a7 a8 a9 a10 a11 R R2 HR HS HN TB LN PS TC TW TG CM) := hD
    have hl : lv_has ls 7 [(3, .int y3), (2, .int y2), (0, .ref a0), (1, .int (bI y1))] := hl
    refine lv_aload_n hx hb dL_isSound_143 rfl (lv_at hl 2 rfl) ?_
    obtain ⟨v224, h225, hf⟩ := kBind hf
    refine kgoR (krunV (wc := (wX3 cI a0 a1 a2 a3 a4 a5 a6 a7 a8 a9 a10 a11 R R2 HR HS HN TB LN PS TC TW TG CM)) (As := []) (rest := []) (ci := 3) hx hb hml hown hts hK (kX3_cycle l D cI fu a0 a1 a2 a3 a4 a5 a6 a7 a8 a9 a10 a11 R R2 HR HS HN TB LN PS TC TW TG CM v224 h225) gL_isSound_X3_cycle rfl rfl rfl hdX3_cycle ⟨Nat.le_of_ble_eq_true rfl, Nat.le_of_ble_eq_true rfl⟩ hP hD rfl rfl rfl rfl hl.1 rfl (Nat.le_of_ble_eq_true rfl) dL_isSound_144 ⟨Nat.zero_le _, Nat.zero_le _⟩) hP hD hS hA [0, 1, 2, 3, 4, 5, 6, 7, 8, 9, 10, 11] rfl (fun H locs hP hS => ?_)
    refine lv_istore_n (lv' := [(3, .int v224), (2, .int y2), (0, .ref a0), (1, .int (bI y1))]) hx hb dL_isSound_147 rfl hl (by decide) rfl (fun ls hl => ?_)
    refine lv_iconst (v := (0 : Int32)) hx hb dL_isSound_148 (by decide) ?_
    refine lv_istore (lv' := [(4, .int (0 : Int32)), (3, .int v224), (2, .int y2), (0, .ref a0), (1, .int (bI y1))]) hx hb dL_isSound_149 hl (by decide) rfl (fun ls hl => ?_)
    have hl : lv_has ls 7 [(4, .int (0 : Int32)), (3, .int v224), (2, .int y2), (0, .ref a0), (1, .int (bI y1))] := hl
    refine klp hf (fun t151 : Int32 => (wX3 cI a0 a1 a2 a3 a4 a5 a6 a7 a8 a9 a10 a11 R R2 HR HS HN TB LN PS TC TW TG CM)) 7 (fun t151 : Int32 => [(4, .int t151), (3, .int v224), (2, .int y2), (0, .ref a0), (1, .int (bI y1))]) ?_ hP hD hS hl
    intro t151 x151_ hf hI1 hO1 H locs ls hP hD hS hl
    unfold fL_isSound_L151 at hf
    refine kcut (D := D) (A := A) (fun K => ∀  (y5 : Int32) (y4 : Int32), fL_isSound_J326 fu R y4 = some x151_ → K (wX3 cI a0 a1 a2 a3 a4 a5 a6 a7 a8 a9 a10 a11 R R2 HR HS HN TB LN PS TC TW TG CM) 7 [(5, .int y5), (4, .int y4), (3, .int v224), (2, .int y2), (0, .ref a0), (1, .int (bI y1))] 326) ?_ (fun hJ326 => ?_)
    · intro y5 y4 hf H locs ls hP hD hS hl
      unfold fL_isSound_J326 at hf
      have hP : va_P D vwCl (wX3 cI a0 a1 a2 a3 a4 a5 a6 a7 a8 a9 a10 a11 R R2 HR HS HN TB LN PS TC TW TG CM) H := hP
      have hD : va_D A (wX3 cI a0 a1 a2 a3 a4 a5 a6 a7 a8 a9 a10 a11 R R2 HR HS HN TB LN PS TC TW TG CM) := hD
      have hl : lv_has ls 7 [(5, .int y5), (4, .int y4), (3, .int v224), (2, .int y2), (0, .ref a0), (1, .int (bI y1))] := hl
      refine lv_aload_n hx hb dL_isSound_326 rfl (lv_at hl 4 rfl) ?_
      refine lv_iload hx hb dL_isSound_327 (lv_at hl 1 rfl) ?_
      obtain ⟨v226, h227, hf⟩ := kBind hf
      refine kgoR (krunS (wc := (wX3 cI a0 a1 a2 a3 a4 a5 a6 a7 a8 a9 a10 a11 R R2 HR HS HN TB LN PS TC TW TG CM)) (As := [.ref a0, .int y4]) (rest := []) hx hb hml hown hts hK (kL_hasTarget l D cI fu a0 a1 a2 a3 a4 a5 a6 a7 a8 a9 a10 a11 R R2 HR HS HN TB LN PS TC TW TG CM y4 v226 h227) gL_isSound_L_hasTarget rfl rfl rfl hdL_hasTarget ⟨Nat.le_of_ble_eq_true rfl, Nat.le_of_ble_eq_true rfl⟩ hP hD rfl hl.1 rfl (Nat.le_of_ble_eq_true rfl) dL_isSound_329 ⟨Nat.zero_le _, Nat.zero_le _⟩) hP hD hS hA [0, 1, 2, 3, 4, 5, 6, 7, 8, 9, 10, 11] rfl (fun H locs hP hS => ?_)
      refine kif_eqb (tgt := 376) hx hb dL_isSound_332 (by decide) (fun c228 => ?_) (fun c228 => ?_)
      · have hf := kIfF c228 hf
        refine lv_iinc (v := y4 + (1 : Int32)) (lv' := [(4, .int (y4 + (1 : Int32))), (5, .int y5), (3, .int v224), (2, .int y2), (0, .ref a0), (1, .int (bI y1))]) hx hb dL_isSound_376 hl (k := 1) rfl rfl (by decide) rfl (fun ls hl => ?_)
        refine lv_goto (tgt := 151) hx hb dL_isSound_379 (by decide) ?_
        obtain ⟨z229, hz229⟩ : ∃ z : Int32, z = y4 + (1 : Int32) := ⟨_, rfl⟩
        rw [← hz229] at hf
        have he := (Option.some.inj hf).symm
        have hl : lv_has ls 7 [(4, .int z229), (3, .int v224), (2, .int y2), (0, .ref a0), (1, .int (bI y1))] := by rw [hz229]; exact lv_sub hl [0, 2, 3, 4, 5] rfl
        exact hI1 _ he H locs ls hP hD hS hl
      · have hf := kIfT c228 hf
        refine lv_aload_n hx hb dL_isSound_335 rfl (lv_at hl 4 rfl) ?_
        refine lv_iload hx hb dL_isSound_336 (lv_at hl 1 rfl) ?_
        refine lv_iconst (v := (3 : Int32)) hx hb dL_isSound_338 (by decide) ?_
        obtain ⟨v230, h231, hf⟩ := kBind hf
        refine kgoR (krunV (wc := (wX3 cI a0 a1 a2 a3 a4 a5 a6 a7 a8 a9 a10 a11 R R2 HR HS HN TB LN PS TC TW TG CM)) (As := [.int y4, .int (3 : Int32)]) (rest := []) (ci := 3) hx hb hml hown hts hK (kX3_crane l D cI fu a0 a1 a2 a3 a4 a5 a6 a7 a8 a9 a10 a11 R R2 HR HS HN TB LN PS TC TW TG CM y4 (3 : Int32) v230 h231) gL_isSound_X3_crane rfl rfl rfl hdX3_crane ⟨Nat.le_of_ble_eq_true rfl, Nat.le_of_ble_eq_true rfl⟩ hP hD rfl rfl rfl rfl hl.1 rfl (Nat.le_of_ble_eq_true rfl) dL_isSound_339 ⟨Nat.zero_le _, Nat.zero_le _⟩) hP hD hS hA [0, 1, 2, 3, 4, 5, 6, 7, 8, 9, 10, 11] rfl (fun H locs hP hS => ?_)
        refine lv_aload_n hx hb dL_isSound_342 rfl (lv_at hl 4 rfl) ?_
        refine lv_iload hx hb dL_isSound_343 (lv_at hl 1 rfl) ?_
        refine lv_iconst (v := (0 : Int32)) hx hb dL_isSound_345 (by decide) ?_
        obtain ⟨v232, h233, hf⟩ := kBind hf
        refine kgoR (krunV (wc := (wX3 cI a0 a1 a2 a3 a4 a5 a6 a7 a8 a9 a10 a11 R R2 HR HS HN TB LN PS TC TW TG CM)) (As := [.int y4, .int (0 : Int32)]) (rest := [.int v230]) (ci := 3) hx hb hml hown hts hK (kX3_crane l D cI fu a0 a1 a2 a3 a4 a5 a6 a7 a8 a9 a10 a11 R R2 HR HS HN TB LN PS TC TW TG CM y4 (0 : Int32) v232 h233) gL_isSound_X3_crane rfl rfl rfl hdX3_crane ⟨Nat.le_of_ble_eq_true rfl, Nat.le_of_ble_eq_true rfl⟩ hP hD rfl rfl rfl rfl hl.1 rfl (Nat.le_of_ble_eq_true rfl) dL_isSound_346 ⟨Nat.zero_le _, Nat.zero_le _⟩) hP hD hS hA [0, 1, 2, 3, 4, 5, 6, 7, 8, 9, 10, 11] rfl (fun H locs hP hS => ?_)
        refine lv_icmp_eq (tgt := 374) hx hb dL_isSound_349 (by decide) (fun c234 => ?_) (fun c234 => ?_)
        · have hf := kIfT c234 hf
          refine lv_iconst (v := (0 : Int32)) hx hb dL_isSound_374 (by decide) ?_
          have he := Option.some.inj hf
          have he := hO1 _ he.symm
          subst he
          exact kretz hx hb hr hlk hP hD hS dL_isSound_375
        · have hf := kIfF c234 hf
          refine lv_aload_n hx hb dL_isSound_352 rfl (lv_at hl 4 rfl) ?_
          refine lv_iload hx hb dL_isSound_353 (lv_at hl 1 rfl) ?_
          refine lv_bipush (v := (7 : Int32)) hx hb dL_isSound_355 (by decide) ?_
          obtain ⟨v235, h236, hf⟩ := kBind hf
          refine kgoR (krunV (wc := (wX3 cI a0 a1 a2 a3 a4 a5 a6 a7 a8 a9 a10 a11 R R2 HR HS HN TB LN PS TC TW TG CM)) (As := [.int y4, .int (7 : Int32)]) (rest := []) (ci := 3) hx hb hml hown hts hK (kX3_crane l D cI fu a0 a1 a2 a3 a4 a5 a6 a7 a8 a9 a10 a11 R R2 HR HS HN TB LN PS TC TW TG CM y4 (7 : Int32) v235 h236) gL_isSound_X3_crane rfl rfl rfl hdX3_crane ⟨Nat.le_of_ble_eq_true rfl, Nat.le_of_ble_eq_true rfl⟩ hP hD rfl rfl rfl rfl hl.1 rfl (Nat.le_of_ble_eq_true rfl) dL_isSound_357 ⟨Nat.zero_le _, Nat.zero_le _⟩) hP hD hS hA [0, 1, 2, 3, 4, 5, 6, 7, 8, 9, 10, 11] rfl (fun H locs hP hS => ?_)
          refine lv_iconst (v := (1 : Int32)) hx hb dL_isSound_360 (by decide) ?_
          refine lv_icmp_eq (tgt := 374) hx hb dL_isSound_361 (by decide) (fun c237 => ?_) (fun c237 => ?_)
          · have hf := kIfT c237 hf
            refine lv_iconst (v := (0 : Int32)) hx hb dL_isSound_374 (by decide) ?_
            have he := Option.some.inj hf
            have he := hO1 _ he.symm
            subst he
            exact kretz hx hb hr hlk hP hD hS dL_isSound_375
          · have hf := kIfF c237 hf
            refine lv_aload_n hx hb dL_isSound_364 rfl (lv_at hl 4 rfl) ?_
            refine lv_iload hx hb dL_isSound_365 (lv_at hl 1 rfl) ?_
            obtain ⟨v238, h239, hf⟩ := kBind hf
            refine kgoR (krunV (wc := (wX3 cI a0 a1 a2 a3 a4 a5 a6 a7 a8 a9 a10 a11 R R2 HR HS HN TB LN PS TC TW TG CM)) (As := [.int y4]) (rest := []) (ci := 3) hx hb hml hown hts hK (kX3_needs l D cI a0 a1 a2 a3 a4 a5 a6 a7 a8 a9 a10 a11 R R2 HR HS HN TB LN PS TC TW TG CM y4 v238 h239) gL_isSound_X3_needs rfl rfl rfl hdX3_needs ⟨Nat.le_of_ble_eq_true rfl, Nat.le_of_ble_eq_true rfl⟩ hP hD rfl rfl rfl rfl hl.1 rfl (Nat.le_of_ble_eq_true rfl) dL_isSound_367 ⟨Nat.zero_le _, Nat.zero_le _⟩) hP hD hS hA [0, 1, 2, 3, 4, 5, 6, 7, 8, 9, 10, 11] rfl (fun H locs hP hS => ?_)
            refine lv_iconst (v := (1 : Int32)) hx hb dL_isSound_370 (by decide) ?_
            refine lv_icmp_ge (tgt := 376) hx hb dL_isSound_371 (by decide) (fun c240 => ?_) (fun c240 => ?_)
            · have hf := kIfT c240 hf
              refine lv_iinc (v := y4 + (1 : Int32)) (lv' := [(4, .int (y4 + (1 : Int32))), (5, .int y5), (3, .int v224), (2, .int y2), (0, .ref a0), (1, .int (bI y1))]) hx hb dL_isSound_376 hl (k := 1) rfl rfl (by decide) rfl (fun ls hl => ?_)
              refine lv_goto (tgt := 151) hx hb dL_isSound_379 (by decide) ?_
              obtain ⟨z241, hz241⟩ : ∃ z : Int32, z = y4 + (1 : Int32) := ⟨_, rfl⟩
              rw [← hz241] at hf
              have he := (Option.some.inj hf).symm
              have hl : lv_has ls 7 [(4, .int z241), (3, .int v224), (2, .int y2), (0, .ref a0), (1, .int (bI y1))] := by rw [hz241]; exact lv_sub hl [0, 2, 3, 4, 5] rfl
              exact hI1 _ he H locs ls hP hD hS hl
            · have hf := kIfF c240 hf
              refine lv_iconst (v := (0 : Int32)) hx hb dL_isSound_374 (by decide) ?_
              have he := Option.some.inj hf
              have he := hO1 _ he.symm
              subst he
              exact kretz hx hb hr hlk hP hD hS dL_isSound_375
    refine kcut (D := D) (A := A) (fun K => ∀  (y5 : Int32) (y4 : Int32), fL_isSound_J282 fu R y4 = some x151_ → K (wX3 cI a0 a1 a2 a3 a4 a5 a6 a7 a8 a9 a10 a11 R R2 HR HS HN TB LN PS TC TW TG CM) 7 [(5, .int y5), (4, .int y4), (3, .int v224), (2, .int y2), (0, .ref a0), (1, .int (bI y1))] 282) ?_ (fun hJ282 => ?_)
    · intro y5 y4 hf H locs ls hP hD hS hl
      unfold fL_isSound_J282 at hf
      have hP : va_P D vwCl (wX3 cI a0 a1 a2 a3 a4 a5 a6 a7 a8 a9 a10 a11 R R2 HR HS HN TB LN PS TC TW TG CM) H := hP
      have hD : va_D A (wX3 cI a0 a1 a2 a3 a4 a5 a6 a7 a8 a9 a10 a11 R R2 HR HS HN TB LN PS TC TW TG CM) := hD
      have hl : lv_has ls 7 [(5, .int y5), (4, .int y4), (3, .int v224), (2, .int y2), (0, .ref a0), (1, .int (bI y1))] := hl
      refine lv_aload_n hx hb dL_isSound_282 rfl (lv_at hl 4 rfl) ?_
      refine lv_iload hx hb dL_isSound_283 (lv_at hl 1 rfl) ?_
      obtain ⟨v242, h243, hf⟩ := kBind hf
      refine kgoR (krunS (wc := (wX3 cI a0 a1 a2 a3 a4 a5 a6 a7 a8 a9 a10 a11 R R2 HR HS HN TB LN PS TC TW TG CM)) (As := [.ref a0, .int y4]) (rest := []) hx hb hml hown hts hK (kL_hasTarget l D cI fu a0 a1 a2 a3 a4 a5 a6 a7 a8 a9 a10 a11 R R2 HR HS HN TB LN PS TC TW TG CM y4 v242 h243) gL_isSound_L_hasTarget rfl rfl rfl hdL_hasTarget ⟨Nat.le_of_ble_eq_true rfl, Nat.le_of_ble_eq_true rfl⟩ hP hD rfl hl.1 rfl (Nat.le_of_ble_eq_true rfl) dL_isSound_285 ⟨Nat.zero_le _, Nat.zero_le _⟩) hP hD hS hA [0, 1, 2, 3, 4, 5, 6, 7, 8, 9, 10, 11] rfl (fun H locs hP hS => ?_)
      refine lv_aload_n hx hb dL_isSound_288 rfl (lv_at hl 4 rfl) ?_
      refine lv_iload hx hb dL_isSound_289 (lv_at hl 1 rfl) ?_
      refine lv_iconst (v := (4 : Int32)) hx hb dL_isSound_291 (by decide) ?_
      obtain ⟨v244, h245, hf⟩ := kBind hf
      refine kgoR (krunV (wc := (wX3 cI a0 a1 a2 a3 a4 a5 a6 a7 a8 a9 a10 a11 R R2 HR HS HN TB LN PS TC TW TG CM)) (As := [.int y4, .int (4 : Int32)]) (rest := [.int (bI v242)]) (ci := 3) hx hb hml hown hts hK (kX3_crane l D cI fu a0 a1 a2 a3 a4 a5 a6 a7 a8 a9 a10 a11 R R2 HR HS HN TB LN PS TC TW TG CM y4 (4 : Int32) v244 h245) gL_isSound_X3_crane rfl rfl rfl hdX3_crane ⟨Nat.le_of_ble_eq_true rfl, Nat.le_of_ble_eq_true rfl⟩ hP hD rfl rfl rfl rfl hl.1 rfl (Nat.le_of_ble_eq_true rfl) dL_isSound_292 ⟨Nat.zero_le _, Nat.zero_le _⟩) hP hD hS hA [0, 1, 2, 3, 4, 5, 6, 7, 8, 9, 10, 11] rfl (fun H locs hP hS => ?_)
      refine lv_if_ne (tgt := 302) hx hb dL_isSound_295 (by decide) (fun c246 => ?_) (fun c246 => ?_)
      · have hf := kIfF c246 hf
        refine lv_iconst (v := (0 : Int32)) hx hb dL_isSound_302 (by decide) ?_
        refine lv_icmp_eq (tgt := 324) hx hb dL_isSound_303 (by decide) (fun c247 => ?_) (fun c247 => ?_)
        · have hf := kIfT c247 hf
          refine lv_iconst (v := (0 : Int32)) hx hb dL_isSound_324 (by decide) ?_
          have he := Option.some.inj hf
          have he := hO1 _ he.symm
          subst he
          exact kretz hx hb hr hlk hP hD hS dL_isSound_325
        · have hf := kIfF c247 hf
          refine lv_aload_n hx hb dL_isSound_306 rfl (lv_at hl 4 rfl) ?_
          refine lv_iload hx hb dL_isSound_307 (lv_at hl 1 rfl) ?_
          obtain ⟨v248, h249, hf⟩ := kBind hf
          refine kgoR (krunS (wc := (wX3 cI a0 a1 a2 a3 a4 a5 a6 a7 a8 a9 a10 a11 R R2 HR HS HN TB LN PS TC TW TG CM)) (As := [.ref a0, .int y4]) (rest := []) hx hb hml hown hts hK (kL_hasTarget l D cI fu a0 a1 a2 a3 a4 a5 a6 a7 a8 a9 a10 a11 R R2 HR HS HN TB LN PS TC TW TG CM y4 v248 h249) gL_isSound_L_hasTarget rfl rfl rfl hdL_hasTarget ⟨Nat.le_of_ble_eq_true rfl, Nat.le_of_ble_eq_true rfl⟩ hP hD rfl hl.1 rfl (Nat.le_of_ble_eq_true rfl) dL_isSound_309 ⟨Nat.zero_le _, Nat.zero_le _⟩) hP hD hS hA [0, 1, 2, 3, 4, 5, 6, 7, 8, 9, 10, 11] rfl (fun H locs hP hS => ?_)
          refine kif_neb (tgt := 326) hx hb dL_isSound_312 (by decide) (fun c250 => ?_) (fun c250 => ?_)
          · have hf := kIfT c250 hf
            exact hJ326 y5 y4 hf H locs ls hP hD hS (lv_sub hl [0, 1, 2, 3, 4, 5] rfl)
          · have hf := kIfF c250 hf
            refine lv_aload_n hx hb dL_isSound_315 rfl (lv_at hl 4 rfl) ?_
            refine lv_iload hx hb dL_isSound_316 (lv_at hl 1 rfl) ?_
            obtain ⟨v251, h252, hf⟩ := kBind hf
            refine kgoR (krunV (wc := (wX3 cI a0 a1 a2 a3 a4 a5 a6 a7 a8 a9 a10 a11 R R2 HR HS HN TB LN PS TC TW TG CM)) (As := [.int y4]) (rest := []) (ci := 3) hx hb hml hown hts hK (kX3_needs l D cI a0 a1 a2 a3 a4 a5 a6 a7 a8 a9 a10 a11 R R2 HR HS HN TB LN PS TC TW TG CM y4 v251 h252) gL_isSound_X3_needs rfl rfl rfl hdX3_needs ⟨Nat.le_of_ble_eq_true rfl, Nat.le_of_ble_eq_true rfl⟩ hP hD rfl rfl rfl rfl hl.1 rfl (Nat.le_of_ble_eq_true rfl) dL_isSound_318 ⟨Nat.zero_le _, Nat.zero_le _⟩) hP hD hS hA [0, 1, 2, 3, 4, 5, 6, 7, 8, 9, 10, 11] rfl (fun H locs hP hS => ?_)
            refine lv_if_eq (tgt := 326) hx hb dL_isSound_321 (by decide) (fun c253 => ?_) (fun c253 => ?_)
            · have hf := kIfT c253 hf
              exact hJ326 y5 y4 hf H locs ls hP hD hS (lv_sub hl [0, 1, 2, 3, 4, 5] rfl)
            · have hf := kIfF c253 hf
              refine lv_iconst (v := (0 : Int32)) hx hb dL_isSound_324 (by decide) ?_
              have he := Option.some.inj hf
              have he := hO1 _ he.symm
              subst he
              exact kretz hx hb hr hlk hP hD hS dL_isSound_325
      · have hf := kIfT c246 hf
        refine lv_iconst (v := (1 : Int32)) hx hb dL_isSound_298 (by decide) ?_
        refine lv_goto (tgt := 303) hx hb dL_isSound_299 (by decide) ?_
        refine lv_icmp_eq (tgt := 324) hx hb dL_isSound_303 (by decide) (fun c254 => ?_) (fun c254 => ?_)
        · have hf := kIfT c254 hf
          refine lv_iconst (v := (0 : Int32)) hx hb dL_isSound_324 (by decide) ?_
          have he := Option.some.inj hf
          have he := hO1 _ he.symm
          subst he
          exact kretz hx hb hr hlk hP hD hS dL_isSound_325
        · have hf := kIfF c254 hf
          refine lv_aload_n hx hb dL_isSound_306 rfl (lv_at hl 4 rfl) ?_
          refine lv_iload hx hb dL_isSound_307 (lv_at hl 1 rfl) ?_
          obtain ⟨v255, h256, hf⟩ := kBind hf
          refine kgoR (krunS (wc := (wX3 cI a0 a1 a2 a3 a4 a5 a6 a7 a8 a9 a10 a11 R R2 HR HS HN TB LN PS TC TW TG CM)) (As := [.ref a0, .int y4]) (rest := []) hx hb hml hown hts hK (kL_hasTarget l D cI fu a0 a1 a2 a3 a4 a5 a6 a7 a8 a9 a10 a11 R R2 HR HS HN TB LN PS TC TW TG CM y4 v255 h256) gL_isSound_L_hasTarget rfl rfl rfl hdL_hasTarget ⟨Nat.le_of_ble_eq_true rfl, Nat.le_of_ble_eq_true rfl⟩ hP hD rfl hl.1 rfl (Nat.le_of_ble_eq_true rfl) dL_isSound_309 ⟨Nat.zero_le _, Nat.zero_le _⟩) hP hD hS hA [0, 1, 2, 3, 4, 5, 6, 7, 8, 9, 10, 11] rfl (fun H locs hP hS => ?_)
          refine kif_neb (tgt := 326) hx hb dL_isSound_312 (by decide) (fun c257 => ?_) (fun c257 => ?_)
          · have hf := kIfT c257 hf
            exact hJ326 y5 y4 hf H locs ls hP hD hS (lv_sub hl [0, 1, 2, 3, 4, 5] rfl)
          · have hf := kIfF c257 hf
            refine lv_aload_n hx hb dL_isSound_315 rfl (lv_at hl 4 rfl) ?_
            refine lv_iload hx hb dL_isSound_316 (lv_at hl 1 rfl) ?_
            obtain ⟨v258, h259, hf⟩ := kBind hf
            refine kgoR (krunV (wc := (wX3 cI a0 a1 a2 a3 a4 a5 a6 a7 a8 a9 a10 a11 R R2 HR HS HN TB LN PS TC TW TG CM)) (As := [.int y4]) (rest := []) (ci := 3) hx hb hml hown hts hK (kX3_needs l D cI a0 a1 a2 a3 a4 a5 a6 a7 a8 a9 a10 a11 R R2 HR HS HN TB LN PS TC TW TG CM y4 v258 h259) gL_isSound_X3_needs rfl rfl rfl hdX3_needs ⟨Nat.le_of_ble_eq_true rfl, Nat.le_of_ble_eq_true rfl⟩ hP hD rfl rfl rfl rfl hl.1 rfl (Nat.le_of_ble_eq_true rfl) dL_isSound_318 ⟨Nat.zero_le _, Nat.zero_le _⟩) hP hD hS hA [0, 1, 2, 3, 4, 5, 6, 7, 8, 9, 10, 11] rfl (fun H locs hP hS => ?_)
            refine lv_if_eq (tgt := 326) hx hb dL_isSound_321 (by decide) (fun c260 => ?_) (fun c260 => ?_)
            · have hf := kIfT c260 hf
              exact hJ326 y5 y4 hf H locs ls hP hD hS (lv_sub hl [0, 1, 2, 3, 4, 5] rfl)
            · have hf := kIfF c260 hf
              refine lv_iconst (v := (0 : Int32)) hx hb dL_isSound_324 (by decide) ?_
              have he := Option.some.inj hf
              have he := hO1 _ he.symm
              subst he
              exact kretz hx hb hr hlk hP hD hS dL_isSound_325
    refine kcut (D := D) (A := A) (fun K => ∀  (y5 : Int32) (y4 : Int32), fL_isSound_J246 fu R y4 = some x151_ → K (wX3 cI a0 a1 a2 a3 a4 a5 a6 a7 a8 a9 a10 a11 R R2 HR HS HN TB LN PS TC TW TG CM) 7 [(5, .int y5), (4, .int y4), (3, .int v224), (2, .int y2), (0, .ref a0), (1, .int (bI y1))] 246) ?_ (fun hJ246 => ?_)
    · intro y5 y4 hf H locs ls hP hD hS hl
      unfold fL_isSound_J246 at hf
      have hP : va_P D vwCl (wX3 cI a0 a1 a2 a3 a4 a5 a6 a7 a8 a9 a10 a11 R R2 HR HS HN TB LN PS TC TW TG CM) H := hP
      have hD : va_D A (wX3 cI a0 a1 a2 a3 a4 a5 a6 a7 a8 a9 a10 a11 R R2 HR HS HN TB LN PS TC TW TG CM) := hD
      have hl : lv_has ls 7 [(5, .int y5), (4, .int y4), (3, .int v224), (2, .int y2), (0, .ref a0), (1, .int (bI y1))] := hl
      refine lv_aload_n hx hb dL_isSound_246 rfl (lv_at hl 4 rfl) ?_
      refine lv_iload hx hb dL_isSound_247 (lv_at hl 1 rfl) ?_
      refine lv_iconst (v := (5 : Int32)) hx hb dL_isSound_249 (by decide) ?_
      obtain ⟨v261, h262, hf⟩ := kBind hf
      refine kgoR (krunV (wc := (wX3 cI a0 a1 a2 a3 a4 a5 a6 a7 a8 a9 a10 a11 R R2 HR HS HN TB LN PS TC TW TG CM)) (As := [.int y4, .int (5 : Int32)]) (rest := []) (ci := 3) hx hb hml hown hts hK (kX3_crane l D cI fu a0 a1 a2 a3 a4 a5 a6 a7 a8 a9 a10 a11 R R2 HR HS HN TB LN PS TC TW TG CM y4 (5 : Int32) v261 h262) gL_isSound_X3_crane rfl rfl rfl hdX3_crane ⟨Nat.le_of_ble_eq_true rfl, Nat.le_of_ble_eq_true rfl⟩ hP hD rfl rfl rfl rfl hl.1 rfl (Nat.le_of_ble_eq_true rfl) dL_isSound_250 ⟨Nat.zero_le _, Nat.zero_le _⟩) hP hD hS hA [0, 1, 2, 3, 4, 5, 6, 7, 8, 9, 10, 11] rfl (fun H locs hP hS => ?_)
      refine lv_aload_n hx hb dL_isSound_253 rfl (lv_at hl 4 rfl) ?_
      refine lv_iload hx hb dL_isSound_254 (lv_at hl 1 rfl) ?_
      refine lv_iconst (v := (1 : Int32)) hx hb dL_isSound_256 (by decide) ?_
      obtain ⟨v263, h264, hf⟩ := kBind hf
      refine kgoR (krunV (wc := (wX3 cI a0 a1 a2 a3 a4 a5 a6 a7 a8 a9 a10 a11 R R2 HR HS HN TB LN PS TC TW TG CM)) (As := [.int y4, .int (1 : Int32)]) (rest := [.int v261]) (ci := 3) hx hb hml hown hts hK (kX3_crane l D cI fu a0 a1 a2 a3 a4 a5 a6 a7 a8 a9 a10 a11 R R2 HR HS HN TB LN PS TC TW TG CM y4 (1 : Int32) v263 h264) gL_isSound_X3_crane rfl rfl rfl hdX3_crane ⟨Nat.le_of_ble_eq_true rfl, Nat.le_of_ble_eq_true rfl⟩ hP hD rfl rfl rfl rfl hl.1 rfl (Nat.le_of_ble_eq_true rfl) dL_isSound_257 ⟨Nat.zero_le _, Nat.zero_le _⟩) hP hD hS hA [0, 1, 2, 3, 4, 5, 6, 7, 8, 9, 10, 11] rfl (fun H locs hP hS => ?_)
      refine lv_icmp_ge (tgt := 324) hx hb dL_isSound_260 (by decide) (fun c265 => ?_) (fun c265 => ?_)
      · have hf := kIfT c265 hf
        refine lv_iconst (v := (0 : Int32)) hx hb dL_isSound_324 (by decide) ?_
        have he := Option.some.inj hf
        have he := hO1 _ he.symm
        subst he
        exact kretz hx hb hr hlk hP hD hS dL_isSound_325
      · have hf := kIfF c265 hf
        refine lv_aload_n hx hb dL_isSound_263 rfl (lv_at hl 4 rfl) ?_
        refine lv_iload hx hb dL_isSound_264 (lv_at hl 1 rfl) ?_
        refine lv_iconst (v := (5 : Int32)) hx hb dL_isSound_266 (by decide) ?_
        obtain ⟨v266, h267, hf⟩ := kBind hf
        refine kgoR (krunV (wc := (wX3 cI a0 a1 a2 a3 a4 a5 a6 a7 a8 a9 a10 a11 R R2 HR HS HN TB LN PS TC TW TG CM)) (As := [.int y4, .int (5 : Int32)]) (rest := []) (ci := 3) hx hb hml hown hts hK (kX3_crane l D cI fu a0 a1 a2 a3 a4 a5 a6 a7 a8 a9 a10 a11 R R2 HR HS HN TB LN PS TC TW TG CM y4 (5 : Int32) v266 h267) gL_isSound_X3_crane rfl rfl rfl hdX3_crane ⟨Nat.le_of_ble_eq_true rfl, Nat.le_of_ble_eq_true rfl⟩ hP hD rfl rfl rfl rfl hl.1 rfl (Nat.le_of_ble_eq_true rfl) dL_isSound_267 ⟨Nat.zero_le _, Nat.zero_le _⟩) hP hD hS hA [0, 1, 2, 3, 4, 5, 6, 7, 8, 9, 10, 11] rfl (fun H locs hP hS => ?_)
        refine lv_if_le (tgt := 282) hx hb dL_isSound_270 (by decide) (fun c268 => ?_) (fun c268 => ?_)
        · have hf := kIfT c268 hf
          exact hJ282 y5 y4 hf H locs ls hP hD hS (lv_sub hl [0, 1, 2, 3, 4, 5] rfl)
        · have hf := kIfF c268 hf
          refine lv_aload_n hx hb dL_isSound_273 rfl (lv_at hl 4 rfl) ?_
          refine lv_iload hx hb dL_isSound_274 (lv_at hl 1 rfl) ?_
          obtain ⟨v269, h270, hf⟩ := kBind hf
          refine kgoR (krunS (wc := (wX3 cI a0 a1 a2 a3 a4 a5 a6 a7 a8 a9 a10 a11 R R2 HR HS HN TB LN PS TC TW TG CM)) (As := [.ref a0, .int y4]) (rest := []) hx hb hml hown hts hK (kL_hasTarget l D cI fu a0 a1 a2 a3 a4 a5 a6 a7 a8 a9 a10 a11 R R2 HR HS HN TB LN PS TC TW TG CM y4 v269 h270) gL_isSound_L_hasTarget rfl rfl rfl hdL_hasTarget ⟨Nat.le_of_ble_eq_true rfl, Nat.le_of_ble_eq_true rfl⟩ hP hD rfl hl.1 rfl (Nat.le_of_ble_eq_true rfl) dL_isSound_276 ⟨Nat.zero_le _, Nat.zero_le _⟩) hP hD hS hA [0, 1, 2, 3, 4, 5, 6, 7, 8, 9, 10, 11] rfl (fun H locs hP hS => ?_)
          refine kif_eqb (tgt := 324) hx hb dL_isSound_279 (by decide) (fun c271 => ?_) (fun c271 => ?_)
          · have hf := kIfF c271 hf
            refine lv_iconst (v := (0 : Int32)) hx hb dL_isSound_324 (by decide) ?_
            have he := Option.some.inj hf
            have he := hO1 _ he.symm
            subst he
            exact kretz hx hb hr hlk hP hD hS dL_isSound_325
          · have hf := kIfT c271 hf
            exact hJ282 y5 y4 hf H locs ls hP hD hS (lv_sub hl [0, 1, 2, 3, 4, 5] rfl)
    refine kcut (D := D) (A := A) (fun K => ∀  (y5 : Int32) (y4 : Int32), fL_isSound_J217 fu R y5 y4 v224 = some x151_ → K (wX3 cI a0 a1 a2 a3 a4 a5 a6 a7 a8 a9 a10 a11 R R2 HR HS HN TB LN PS TC TW TG CM) 7 [(5, .int y5), (4, .int y4), (3, .int v224), (2, .int y2), (0, .ref a0), (1, .int (bI y1))] 217) ?_ (fun hJ217 => ?_)
    · intro y5 y4 hf H locs ls hP hD hS hl
      unfold fL_isSound_J217 at hf
      have hP : va_P D vwCl (wX3 cI a0 a1 a2 a3 a4 a5 a6 a7 a8 a9 a10 a11 R R2 HR HS HN TB LN PS TC TW TG CM) H := hP
      have hD : va_D A (wX3 cI a0 a1 a2 a3 a4 a5 a6 a7 a8 a9 a10 a11 R R2 HR HS HN TB LN PS TC TW TG CM) := hD
      have hl : lv_has ls 7 [(5, .int y5), (4, .int y4), (3, .int v224), (2, .int y2), (0, .ref a0), (1, .int (bI y1))] := hl
      refine lv_iload_n hx hb dL_isSound_217 rfl (lv_at hl 2 rfl) ?_
      refine lv_iload hx hb dL_isSound_218 (lv_at hl 1 rfl) ?_
      refine kishr hx hb dL_isSound_220 ?_
      refine lv_iconst (v := (1 : Int32)) hx hb dL_isSound_221 (by decide) ?_
      refine lv_iand hx hb dL_isSound_222 ?_
      refine lv_iconst (v := (1 : Int32)) hx hb dL_isSound_223 (by decide) ?_
      refine lv_icmp_ne (tgt := 246) hx hb dL_isSound_224 (by decide) (fun c272 => ?_) (fun c272 => ?_)
      · have hf := kIfF c272 hf
        exact hJ246 y5 y4 hf H locs ls hP hD hS (lv_sub hl [0, 1, 2, 3, 4, 5] rfl)
      · have hf := kIfT c272 hf
        refine lv_iload hx hb dL_isSound_227 (lv_at hl 0 rfl) ?_
        refine lv_bipush (v := (-100 : Int32)) hx hb dL_isSound_229 (by decide) ?_
        refine lv_icmp_eq (tgt := 244) hx hb dL_isSound_231 (by decide) (fun c273 => ?_) (fun c273 => ?_)
        · have hf := kIfT c273 hf
          refine lv_iconst (v := (0 : Int32)) hx hb dL_isSound_244 (by decide) ?_
          have he := Option.some.inj hf
          have he := hO1 _ he.symm
          subst he
          exact kretz hx hb hr hlk hP hD hS dL_isSound_245
        · have hf := kIfF c273 hf
          refine lv_iload_n hx hb dL_isSound_234 rfl (lv_at hl 2 rfl) ?_
          refine lv_iload hx hb dL_isSound_235 (lv_at hl 0 rfl) ?_
          refine kishr hx hb dL_isSound_237 ?_
          refine lv_iconst (v := (1 : Int32)) hx hb dL_isSound_238 (by decide) ?_
          refine lv_iand hx hb dL_isSound_239 ?_
          refine lv_iconst (v := (1 : Int32)) hx hb dL_isSound_240 (by decide) ?_
          refine lv_icmp_eq (tgt := 246) hx hb dL_isSound_241 (by decide) (fun c274 => ?_) (fun c274 => ?_)
          · have hf := kIfT c274 hf
            exact hJ246 y5 y4 hf H locs ls hP hD hS (lv_sub hl [0, 1, 2, 3, 4, 5] rfl)
          · have hf := kIfF c274 hf
            refine lv_iconst (v := (0 : Int32)) hx hb dL_isSound_244 (by decide) ?_
            have he := Option.some.inj hf
            have he := hO1 _ he.symm
            subst he
            exact kretz hx hb hr hlk hP hD hS dL_isSound_245
    have hP : va_P D vwCl (wX3 cI a0 a1 a2 a3 a4 a5 a6 a7 a8 a9 a10 a11 R R2 HR HS HN TB LN PS TC TW TG CM) H := hP
    have hD : va_D A (wX3 cI a0 a1 a2 a3 a4 a5 a6 a7 a8 a9 a10 a11 R R2 HR HS HN TB LN PS TC TW TG CM) := hD
    have hl : lv_has ls 7 [(4, .int t151), (3, .int v224), (2, .int y2), (0, .ref a0), (1, .int (bI y1))] := hl
    refine lv_iload hx hb dL_isSound_151 (lv_at hl 0 rfl) ?_
    refine lv_aload_n hx hb dL_isSound_153 rfl (lv_at hl 3 rfl) ?_
    obtain ⟨v275, h276, hf⟩ := kBind hf
    refine kgoR (krunV (wc := (wX3 cI a0 a1 a2 a3 a4 a5 a6 a7 a8 a9 a10 a11 R R2 HR HS HN TB LN PS TC TW TG CM)) (As := []) (rest := [.int t151]) (ci := 3) hx hb hml hown hts hK (kX3_cranes l D cI a0 a1 a2 a3 a4 a5 a6 a7 a8 a9 a10 a11 R R2 HR HS HN TB LN PS TC TW TG CM v275 h276) gL_isSound_X3_cranes rfl rfl rfl hdX3_cranes ⟨Nat.le_of_ble_eq_true rfl, Nat.le_of_ble_eq_true rfl⟩ hP hD rfl rfl rfl rfl hl.1 rfl (Nat.le_of_ble_eq_true rfl) dL_isSound_154 ⟨Nat.zero_le _, Nat.zero_le _⟩) hP hD hS hA [0, 1, 2, 3, 4, 5, 6, 7, 8, 9, 10, 11] rfl (fun H locs hP hS => ?_)
    refine lv_icmp_ge (tgt := 382) hx hb dL_isSound_157 (by decide) (fun c277 => ?_) (fun c277 => ?_)
    · have hf := kIfT c277 hf
      refine lv_iconst (v := (1 : Int32)) hx hb dL_isSound_382 (by decide) ?_
      have he := Option.some.inj hf
      have he := hO1 _ he.symm
      subst he
      exact kretz hx hb hr hlk hP hD hS dL_isSound_383
    · have hf := kIfF c277 hf
      refine lv_aload_n hx hb dL_isSound_160 rfl (lv_at hl 3 rfl) ?_
      refine lv_iload hx hb dL_isSound_161 (lv_at hl 0 rfl) ?_
      obtain ⟨v278, h279, hf⟩ := kBind hf
      refine kgoR (krunV (wc := (wX3 cI a0 a1 a2 a3 a4 a5 a6 a7 a8 a9 a10 a11 R R2 HR HS HN TB LN PS TC TW TG CM)) (As := [.int t151]) (rest := []) (ci := 3) hx hb hml hown hts hK (kX3_blocker l D cI fu a0 a1 a2 a3 a4 a5 a6 a7 a8 a9 a10 a11 R R2 HR HS HN TB LN PS TC TW TG CM t151 v278 h279) gL_isSound_X3_blocker rfl rfl rfl hdX3_blocker ⟨Nat.le_of_ble_eq_true rfl, Nat.le_of_ble_eq_true rfl⟩ hP hD rfl rfl rfl rfl hl.1 rfl (Nat.le_of_ble_eq_true rfl) dL_isSound_163 ⟨Nat.zero_le _, Nat.zero_le _⟩) hP hD hS hA [0, 1, 2, 3, 4, 5, 6, 7, 8, 9, 10, 11] rfl (fun H locs hP hS => ?_)
      refine lv_istore (lv' := [(5, .int v278), (4, .int t151), (3, .int v224), (2, .int y2), (0, .ref a0), (1, .int (bI y1))]) hx hb dL_isSound_166 hl (by decide) rfl (fun ls hl => ?_)
      refine lv_iload hx hb dL_isSound_168 (lv_at hl 0 rfl) ?_
      refine lv_bipush (v := (-100 : Int32)) hx hb dL_isSound_170 (by decide) ?_
      refine lv_icmp_eq (tgt := 217) hx hb dL_isSound_172 (by decide) (fun c280 => ?_) (fun c280 => ?_)
      · have hf := kIfT c280 hf
        exact hJ217 v278 t151 hf H locs ls hP hD hS (lv_sub hl [0, 1, 2, 3, 4, 5] rfl)
      · have hf := kIfF c280 hf
        refine lv_iload hx hb dL_isSound_175 (lv_at hl 0 rfl) ?_
        refine lv_iload hx hb dL_isSound_177 (lv_at hl 1 rfl) ?_
        refine lv_icmp_eq (tgt := 215) hx hb dL_isSound_179 (by decide) (fun c281 => ?_) (fun c281 => ?_)
        · have hf := kIfT c281 hf
          refine lv_iconst (v := (0 : Int32)) hx hb dL_isSound_215 (by decide) ?_
          have he := Option.some.inj hf
          have he := hO1 _ he.symm
          subst he
          exact kretz hx hb hr hlk hP hD hS dL_isSound_216
        · have hf := kIfF c281 hf
          refine lv_iload hx hb dL_isSound_182 (lv_at hl 0 rfl) ?_
          refine lv_if_lt (tgt := 215) hx hb dL_isSound_184 (by decide) (fun c282 => ?_) (fun c282 => ?_)
          · have hf := kIfT c282 hf
            refine lv_iconst (v := (0 : Int32)) hx hb dL_isSound_215 (by decide) ?_
            have he := Option.some.inj hf
            have he := hO1 _ he.symm
            subst he
            exact kretz hx hb hr hlk hP hD hS dL_isSound_216
          · have hf := kIfF c282 hf
            refine lv_iload hx hb dL_isSound_187 (lv_at hl 0 rfl) ?_
            refine lv_aload_n hx hb dL_isSound_189 rfl (lv_at hl 4 rfl) ?_
            obtain ⟨v283, h284, hf⟩ := kBind hf
            refine kgoR (krunV (wc := (wX3 cI a0 a1 a2 a3 a4 a5 a6 a7 a8 a9 a10 a11 R R2 HR HS HN TB LN PS TC TW TG CM)) (As := []) (rest := [.int v278]) (ci := 3) hx hb hml hown hts hK (kX3_cranes l D cI a0 a1 a2 a3 a4 a5 a6 a7 a8 a9 a10 a11 R R2 HR HS HN TB LN PS TC TW TG CM v283 h284) gL_isSound_X3_cranes rfl rfl rfl hdX3_cranes ⟨Nat.le_of_ble_eq_true rfl, Nat.le_of_ble_eq_true rfl⟩ hP hD rfl rfl rfl rfl hl.1 rfl (Nat.le_of_ble_eq_true rfl) dL_isSound_190 ⟨Nat.zero_le _, Nat.zero_le _⟩) hP hD hS hA [0, 1, 2, 3, 4, 5, 6, 7, 8, 9, 10, 11] rfl (fun H locs hP hS => ?_)
            refine lv_icmp_ge (tgt := 215) hx hb dL_isSound_193 (by decide) (fun c285 => ?_) (fun c285 => ?_)
            · have hf := kIfT c285 hf
              refine lv_iconst (v := (0 : Int32)) hx hb dL_isSound_215 (by decide) ?_
              have he := Option.some.inj hf
              have he := hO1 _ he.symm
              subst he
              exact kretz hx hb hr hlk hP hD hS dL_isSound_216
            · have hf := kIfF c285 hf
              refine lv_aload_n hx hb dL_isSound_196 rfl (lv_at hl 4 rfl) ?_
              refine lv_iload hx hb dL_isSound_197 (lv_at hl 1 rfl) ?_
              obtain ⟨v286, h287, hf⟩ := kBind hf
              refine kgoR (krunS (wc := (wX3 cI a0 a1 a2 a3 a4 a5 a6 a7 a8 a9 a10 a11 R R2 HR HS HN TB LN PS TC TW TG CM)) (As := [.ref a0, .int t151]) (rest := []) hx hb hml hown hts hK (kL_hasTarget l D cI fu a0 a1 a2 a3 a4 a5 a6 a7 a8 a9 a10 a11 R R2 HR HS HN TB LN PS TC TW TG CM t151 v286 h287) gL_isSound_L_hasTarget rfl rfl rfl hdL_hasTarget ⟨Nat.le_of_ble_eq_true rfl, Nat.le_of_ble_eq_true rfl⟩ hP hD rfl hl.1 rfl (Nat.le_of_ble_eq_true rfl) dL_isSound_199 ⟨Nat.zero_le _, Nat.zero_le _⟩) hP hD hS hA [0, 1, 2, 3, 4, 5, 6, 7, 8, 9, 10, 11] rfl (fun H locs hP hS => ?_)
              refine kif_eqb (tgt := 215) hx hb dL_isSound_202 (by decide) (fun c288 => ?_) (fun c288 => ?_)
              · have hf := kIfF c288 hf
                refine lv_iconst (v := (0 : Int32)) hx hb dL_isSound_215 (by decide) ?_
                have he := Option.some.inj hf
                have he := hO1 _ he.symm
                subst he
                exact kretz hx hb hr hlk hP hD hS dL_isSound_216
              · have hf := kIfT c288 hf
                refine lv_aload_n hx hb dL_isSound_205 rfl (lv_at hl 4 rfl) ?_
                refine lv_iload hx hb dL_isSound_206 (lv_at hl 1 rfl) ?_
                refine lv_iconst (v := (5 : Int32)) hx hb dL_isSound_208 (by decide) ?_
                obtain ⟨v289, h290, hf⟩ := kBind hf
                refine kgoR (krunV (wc := (wX3 cI a0 a1 a2 a3 a4 a5 a6 a7 a8 a9 a10 a11 R R2 HR HS HN TB LN PS TC TW TG CM)) (As := [.int t151, .int (5 : Int32)]) (rest := []) (ci := 3) hx hb hml hown hts hK (kX3_crane l D cI fu a0 a1 a2 a3 a4 a5 a6 a7 a8 a9 a10 a11 R R2 HR HS HN TB LN PS TC TW TG CM t151 (5 : Int32) v289 h290) gL_isSound_X3_crane rfl rfl rfl hdX3_crane ⟨Nat.le_of_ble_eq_true rfl, Nat.le_of_ble_eq_true rfl⟩ hP hD rfl rfl rfl rfl hl.1 rfl (Nat.le_of_ble_eq_true rfl) dL_isSound_209 ⟨Nat.zero_le _, Nat.zero_le _⟩) hP hD hS hA [0, 1, 2, 3, 4, 5, 6, 7, 8, 9, 10, 11] rfl (fun H locs hP hS => ?_)
                refine lv_if_eq (tgt := 217) hx hb dL_isSound_212 (by decide) (fun c291 => ?_) (fun c291 => ?_)
                · have hf := kIfT c291 hf
                  exact hJ217 v278 t151 hf H locs ls hP hD hS (lv_sub hl [0, 1, 2, 3, 4, 5] rfl)
                · have hf := kIfF c291 hf
                  refine lv_iconst (v := (0 : Int32)) hx hb dL_isSound_215 (by decide) ?_
                  have he := Option.some.inj hf
                  have he := hO1 _ he.symm
                  subst he
                  exact kretz hx hb hr hlk hP hD hS dL_isSound_216
  refine kcut (D := D) (A := A) (fun K => ∀  (y3 : Int32) (y2 : Int32) (y1 : Bool), fL_isSound_J125 fu R y2 y1 = some o → K (wX3 cI a0 a1 a2 a3 a4 a5 a6 a7 a8 a9 a10 a11 R R2 HR HS HN TB LN PS TC TW TG CM) 7 [(3, .int y3), (2, .int y2), (0, .ref a0), (1, .int (bI y1))] 125) ?_ (fun hJ125 => ?_)
  · intro y3 y2 y1 hf H locs ls hP hD hS hl
    unfold fL_isSound_J125 at hf
    have hP : va_P D vwCl (wX3 cI a0 a1 a2 a3 a4 a5 a6 a7 a8 a9 a10 a11 R R2 HR HS HN TB LN PS TC TW TG CM) H := hP
    have hD : va_D A (wX3 cI a0 a1 a2 a3 a4 a5 a6 a7 a8 a9 a10 a11 R R2 HR HS HN TB LN PS TC TW TG CM) := hD
    have hl : lv_has ls 7 [(3, .int y3), (2, .int y2), (0, .ref a0), (1, .int (bI y1))] := hl
    refine lv_aload_n hx hb dL_isSound_125 rfl (lv_at hl 2 rfl) ?_
    obtain ⟨v292, h293, hf⟩ := kBind hf
    refine kgoR (krunV (wc := (wX3 cI a0 a1 a2 a3 a4 a5 a6 a7 a8 a9 a10 a11 R R2 HR HS HN TB LN PS TC TW TG CM)) (As := []) (rest := []) (ci := 3) hx hb hml hown hts hK (kX3_conflicts l D cI fu a0 a1 a2 a3 a4 a5 a6 a7 a8 a9 a10 a11 R R2 HR HS HN TB LN PS TC TW TG CM v292 h293) gL_isSound_X3_conflicts rfl rfl rfl hdX3_conflicts ⟨Nat.le_of_ble_eq_true rfl, Nat.le_of_ble_eq_true rfl⟩ hP hD rfl rfl rfl rfl hl.1 rfl (Nat.le_of_ble_eq_true rfl) dL_isSound_126 ⟨Nat.zero_le _, Nat.zero_le _⟩) hP hD hS hA [0, 1, 2, 3, 4, 5, 6, 7, 8, 9, 10, 11] rfl (fun H locs hP hS => ?_)
    refine lv_iload_n hx hb dL_isSound_129 rfl (lv_at hl 1 rfl) ?_
    refine lv_icmp_ne (tgt := 141) hx hb dL_isSound_130 (by decide) (fun c294 => ?_) (fun c294 => ?_)
    · have hf := kIfF c294 hf
      refine lv_iconst (v := (0 : Int32)) hx hb dL_isSound_141 (by decide) ?_
      have he := Option.some.inj hf
      subst he
      exact kretz hx hb hr hlk hP hD hS dL_isSound_142
    · have hf := kIfT c294 hf
      refine lv_iload_n hx hb dL_isSound_133 rfl (lv_at hl 1 rfl) ?_
      refine lv_if_eq (tgt := 143) hx hb dL_isSound_134 (by decide) (fun c295 => ?_) (fun c295 => ?_)
      · have hf := kIfT c295 hf
        exact hJ143 y3 y2 y1 hf H locs ls hP hD hS (lv_sub hl [0, 1, 2, 3] rfl)
      · have hf := kIfF c295 hf
        refine lv_iload_n hx hb dL_isSound_137 rfl (lv_at hl 3 rfl) ?_
        refine kif_neb (tgt := 143) hx hb dL_isSound_138 (by decide) (fun c296 => ?_) (fun c296 => ?_)
        · have hf := kIfT c296 hf
          exact hJ143 y3 y2 y1 hf H locs ls hP hD hS (lv_sub hl [0, 1, 2, 3] rfl)
        · have hf := kIfF c296 hf
          refine lv_iconst (v := (0 : Int32)) hx hb dL_isSound_141 (by decide) ?_
          have he := Option.some.inj hf
          subst he
          exact kretz hx hb hr hlk hP hD hS dL_isSound_142
  refine lv_iconst (v := (0 : Int32)) hx hb dL_isSound_0 (by decide) ?_
  refine lv_istore_n (lv' := [(2, .int (0 : Int32)), (0, .ref a0), (1, .int (bI x1))]) hx hb dL_isSound_1 rfl hl (by decide) rfl (fun ls hl => ?_)
  refine lv_iconst (v := (0 : Int32)) hx hb dL_isSound_2 (by decide) ?_
  refine lv_istore_n (lv' := [(3, .int (0 : Int32)), (2, .int (0 : Int32)), (0, .ref a0), (1, .int (bI x1))]) hx hb dL_isSound_3 rfl hl (by decide) rfl (fun ls hl => ?_)
  have hl : lv_has ls 7 [(3, .int (0 : Int32)), (2, .int (0 : Int32)), (0, .ref a0), (1, .int (bI x1))] := hl
  refine klp hf (fun t4 : Int32 × Int32 => (wX3 cI a0 a1 a2 a3 a4 a5 a6 a7 a8 a9 a10 a11 R R2 HR HS HN TB LN PS TC TW TG CM)) 7 (fun t4 : Int32 × Int32 => [(3, .int t4.2), (2, .int t4.1), (0, .ref a0), (1, .int (bI x1))]) ?_ hP hD hS hl
  intro t4 x4_ hf hI1 hO1 H locs ls hP hD hS hl
  unfold fL_isSound_L4 at hf
  have hP : va_P D vwCl (wX3 cI a0 a1 a2 a3 a4 a5 a6 a7 a8 a9 a10 a11 R R2 HR HS HN TB LN PS TC TW TG CM) H := hP
  have hD : va_D A (wX3 cI a0 a1 a2 a3 a4 a5 a6 a7 a8 a9 a10 a11 R R2 HR HS HN TB LN PS TC TW TG CM) := hD
  have hl : lv_has ls 7 [(3, .int t4.2), (2, .int t4.1), (0, .ref a0), (1, .int (bI x1))] := hl
  refine lv_iload_n hx hb dL_isSound_4 rfl (lv_at hl 0 rfl) ?_
  refine lv_bipush (v := (6 : Int32)) hx hb dL_isSound_5 (by decide) ?_
  refine lv_icmp_ge (tgt := 125) hx hb dL_isSound_7 (by decide) (fun c297 => ?_) (fun c297 => ?_)
  · have hf := kIfT c297 hf
    obtain ⟨r_, hf, he⟩ := kBind hf
    have he := (Option.some.inj he).symm
    have he := hO1 _ he
    rw [he] at hf
    exact hJ125 t4.2 t4.1 x1 hf H locs ls hP hD hS (lv_sub hl [0, 1, 2, 3] rfl)
  · have hf := kIfF c297 hf
    refine lv_aload_n hx hb dL_isSound_10 rfl (lv_at hl 2 rfl) ?_
    refine lv_iload_n hx hb dL_isSound_11 rfl (lv_at hl 0 rfl) ?_
    obtain ⟨v298, h299, hf⟩ := kBind hf
    refine kgoR (krunV (wc := (wX3 cI a0 a1 a2 a3 a4 a5 a6 a7 a8 a9 a10 a11 R R2 HR HS HN TB LN PS TC TW TG CM)) (As := [.int t4.2]) (rest := []) (ci := 3) hx hb hml hown hts hK (kX3_occupants l D cI fu a0 a1 a2 a3 a4 a5 a6 a7 a8 a9 a10 a11 R R2 HR HS HN TB LN PS TC TW TG CM t4.2 v298 h299) gL_isSound_X3_occupants rfl rfl rfl hdX3_occupants ⟨Nat.le_of_ble_eq_true rfl, Nat.le_of_ble_eq_true rfl⟩ hP hD rfl rfl rfl rfl hl.1 rfl (Nat.le_of_ble_eq_true rfl) dL_isSound_12 ⟨Nat.zero_le _, Nat.zero_le _⟩) hP hD hS hA [0, 1, 2, 3, 4, 5, 6, 7, 8, 9, 10, 11] rfl (fun H locs hP hS => ?_)
    refine lv_istore (lv' := [(4, .int v298), (3, .int t4.2), (2, .int t4.1), (0, .ref a0), (1, .int (bI x1))]) hx hb dL_isSound_15 hl (by decide) rfl (fun ls hl => ?_)
    refine lv_iconst (v := (0 : Int32)) hx hb dL_isSound_17 (by decide) ?_
    refine lv_istore (lv' := [(5, .int (0 : Int32)), (4, .int v298), (3, .int t4.2), (2, .int t4.1), (0, .ref a0), (1, .int (bI x1))]) hx hb dL_isSound_18 hl (by decide) rfl (fun ls hl => ?_)
    have hl : lv_has ls 7 [(5, .int (0 : Int32)), (4, .int v298), (3, .int t4.2), (2, .int t4.1), (0, .ref a0), (1, .int (bI x1))] := hl
    refine klp hf (fun t20 : Int32 => (wX3 cI a0 a1 a2 a3 a4 a5 a6 a7 a8 a9 a10 a11 R R2 HR HS HN TB LN PS TC TW TG CM)) 7 (fun t20 : Int32 => [(5, .int t20), (4, .int v298), (3, .int t4.2), (2, .int t4.1), (0, .ref a0), (1, .int (bI x1))]) ?_ hP hD hS hl
    intro t20 x20_ hf hI2 hO2 H locs ls hP hD hS hl
    unfold fL_isSound_L20 at hf
    have hP : va_P D vwCl (wX3 cI a0 a1 a2 a3 a4 a5 a6 a7 a8 a9 a10 a11 R R2 HR HS HN TB LN PS TC TW TG CM) H := hP
    have hD : va_D A (wX3 cI a0 a1 a2 a3 a4 a5 a6 a7 a8 a9 a10 a11 R R2 HR HS HN TB LN PS TC TW TG CM) := hD
    have hl : lv_has ls 7 [(5, .int t20), (4, .int v298), (3, .int t4.2), (2, .int t4.1), (0, .ref a0), (1, .int (bI x1))] := hl
    refine lv_iload hx hb dL_isSound_20 (lv_at hl 0 rfl) ?_
    refine lv_aload_n hx hb dL_isSound_22 rfl (lv_at hl 4 rfl) ?_
    obtain ⟨v300, h301, hf⟩ := kBind hf
    refine kgoR (krunV (wc := (wX3 cI a0 a1 a2 a3 a4 a5 a6 a7 a8 a9 a10 a11 R R2 HR HS HN TB LN PS TC TW TG CM)) (As := []) (rest := [.int t20]) (ci := 3) hx hb hml hown hts hK (kX3_cranes l D cI a0 a1 a2 a3 a4 a5 a6 a7 a8 a9 a10 a11 R R2 HR HS HN TB LN PS TC TW TG CM v300 h301) gL_isSound_X3_cranes rfl rfl rfl hdX3_cranes ⟨Nat.le_of_ble_eq_true rfl, Nat.le_of_ble_eq_true rfl⟩ hP hD rfl rfl rfl rfl hl.1 rfl (Nat.le_of_ble_eq_true rfl) dL_isSound_23 ⟨Nat.zero_le _, Nat.zero_le _⟩) hP hD hS hA [0, 1, 2, 3, 4, 5, 6, 7, 8, 9, 10, 11] rfl (fun H locs hP hS => ?_)
    refine lv_icmp_ge (tgt := 99) hx hb dL_isSound_26 (by decide) (fun c302 => ?_) (fun c302 => ?_)
    · have hf := kIfT c302 hf
      refine lv_iload_n hx hb dL_isSound_99 rfl (lv_at hl 3 rfl) ?_
      refine lv_iload hx hb dL_isSound_100 (lv_at hl 1 rfl) ?_
      refine lv_iload hx hb dL_isSound_102 (lv_at hl 1 rfl) ?_
      refine lv_iconst (v := (1 : Int32)) hx hb dL_isSound_104 (by decide) ?_
      refine lv_isub hx hb dL_isSound_105 ?_
      refine lv_iand hx hb dL_isSound_106 ?_
      refine lv_if_eq (tgt := 116) hx hb dL_isSound_107 (by decide) (fun c303 => ?_) (fun c303 => ?_)
      · have hf := kIfT c303 hf
        refine lv_iconst (v := (0 : Int32)) hx hb dL_isSound_116 (by decide) ?_
        refine lv_ior hx hb dL_isSound_117 ?_
        refine lv_istore_n (lv' := [(2, .int (t4.1 ||| (0 : Int32))), (5, .int t20), (4, .int v298), (3, .int t4.2), (0, .ref a0), (1, .int (bI x1))]) hx hb dL_isSound_118 rfl hl (by decide) rfl (fun ls hl => ?_)
        refine lv_iinc (v := t4.2 + (1 : Int32)) (lv' := [(3, .int (t4.2 + (1 : Int32))), (2, .int (t4.1 ||| (0 : Int32))), (5, .int t20), (4, .int v298), (0, .ref a0), (1, .int (bI x1))]) hx hb dL_isSound_119 hl (k := 3) rfl rfl (by decide) rfl (fun ls hl => ?_)
        refine lv_goto (tgt := 4) hx hb dL_isSound_122 (by decide) ?_
        obtain ⟨z304, hz304⟩ : ∃ z : Int32, z = t4.1 ||| (0 : Int32) := ⟨_, rfl⟩
        rw [← hz304] at hf
        obtain ⟨z305, hz305⟩ : ∃ z : Int32, z = t4.2 + (1 : Int32) := ⟨_, rfl⟩
        rw [← hz305] at hf
        have he := (Option.some.inj hf).symm
        have he := (hO2 _ he).symm
        have hl : lv_has ls 7 [(3, .int z305), (2, .int z304), (0, .ref a0), (1, .int (bI x1))] := by rw [hz304, hz305]; exact lv_sub hl [0, 1, 4, 5] rfl
        exact hI1 _ he H locs ls hP hD hS hl
      · have hf := kIfF c303 hf
        refine lv_iconst (v := (1 : Int32)) hx hb dL_isSound_110 (by decide) ?_
        refine lv_iload_n hx hb dL_isSound_111 rfl (lv_at hl 2 rfl) ?_
        refine kishl hx hb dL_isSound_112 ?_
        refine lv_goto (tgt := 117) hx hb dL_isSound_113 (by decide) ?_
        refine lv_ior hx hb dL_isSound_117 ?_
        refine lv_istore_n (lv' := [(2, .int (t4.1 ||| (jshl (1 : Int32) t4.2))), (5, .int t20), (4, .int v298), (3, .int t4.2), (0, .ref a0), (1, .int (bI x1))]) hx hb dL_isSound_118 rfl hl (by decide) rfl (fun ls hl => ?_)
        refine lv_iinc (v := t4.2 + (1 : Int32)) (lv' := [(3, .int (t4.2 + (1 : Int32))), (2, .int (t4.1 ||| (jshl (1 : Int32) t4.2))), (5, .int t20), (4, .int v298), (0, .ref a0), (1, .int (bI x1))]) hx hb dL_isSound_119 hl (k := 3) rfl rfl (by decide) rfl (fun ls hl => ?_)
        refine lv_goto (tgt := 4) hx hb dL_isSound_122 (by decide) ?_
        obtain ⟨z306, hz306⟩ : ∃ z : Int32, z = t4.1 ||| (jshl (1 : Int32) t4.2) := ⟨_, rfl⟩
        rw [← hz306] at hf
        obtain ⟨z307, hz307⟩ : ∃ z : Int32, z = t4.2 + (1 : Int32) := ⟨_, rfl⟩
        rw [← hz307] at hf
        have he := (Option.some.inj hf).symm
        have he := (hO2 _ he).symm
        have hl : lv_has ls 7 [(3, .int z307), (2, .int z306), (0, .ref a0), (1, .int (bI x1))] := by rw [hz306, hz307]; exact lv_sub hl [0, 1, 4, 5] rfl
        exact hI1 _ he H locs ls hP hD hS hl
    · have hf := kIfF c302 hf
      refine lv_iload hx hb dL_isSound_29 (lv_at hl 1 rfl) ?_
      refine lv_iload hx hb dL_isSound_31 (lv_at hl 0 rfl) ?_
      refine kishr hx hb dL_isSound_33 ?_
      refine lv_iconst (v := (1 : Int32)) hx hb dL_isSound_34 (by decide) ?_
      refine lv_iand hx hb dL_isSound_35 ?_
      refine lv_iconst (v := (1 : Int32)) hx hb dL_isSound_36 (by decide) ?_
      refine lv_icmp_ne (tgt := 44) hx hb dL_isSound_37 (by decide) (fun c308 => ?_) (fun c308 => ?_)
      · have hf := kIfF c308 hf
        refine lv_iconst (v := (0 : Int32)) hx hb dL_isSound_44 (by decide) ?_
        refine lv_istore (lv' := [(6, .int (0 : Int32)), (5, .int t20), (4, .int v298), (3, .int t4.2), (2, .int t4.1), (0, .ref a0), (1, .int (bI x1))]) hx hb dL_isSound_45 hl (by decide) rfl (fun ls hl => ?_)
        refine lv_iload hx hb dL_isSound_47 (lv_at hl 0 rfl) ?_
        refine lv_aload_n hx hb dL_isSound_49 rfl (lv_at hl 5 rfl) ?_
        refine lv_iload hx hb dL_isSound_50 (lv_at hl 1 rfl) ?_
        refine lv_bipush (v := (8 : Int32)) hx hb dL_isSound_52 (by decide) ?_
        obtain ⟨v309, h310, hf⟩ := kBind hf
        refine kgoR (krunV (wc := (wX3 cI a0 a1 a2 a3 a4 a5 a6 a7 a8 a9 a10 a11 R R2 HR HS HN TB LN PS TC TW TG CM)) (As := [.int t20, .int (8 : Int32)]) (rest := [.int (0 : Int32)]) (ci := 3) hx hb hml hown hts hK (kX3_crane l D cI fu a0 a1 a2 a3 a4 a5 a6 a7 a8 a9 a10 a11 R R2 HR HS HN TB LN PS TC TW TG CM t20 (8 : Int32) v309 h310) gL_isSound_X3_crane rfl rfl rfl hdX3_crane ⟨Nat.le_of_ble_eq_true rfl, Nat.le_of_ble_eq_true rfl⟩ hP hD rfl rfl rfl rfl hl.1 rfl (Nat.le_of_ble_eq_true rfl) dL_isSound_54 ⟨Nat.zero_le _, Nat.zero_le _⟩) hP hD hS hA [0, 1, 2, 3, 4, 5, 6, 7, 8, 9, 10, 11] rfl (fun H locs hP hS => ?_)
        refine lv_iload_n hx hb dL_isSound_57 rfl (lv_at hl 3 rfl) ?_
        refine kishr hx hb dL_isSound_58 ?_
        refine lv_iconst (v := (1 : Int32)) hx hb dL_isSound_59 (by decide) ?_
        refine lv_iand hx hb dL_isSound_60 ?_
        refine lv_iconst (v := (1 : Int32)) hx hb dL_isSound_61 (by decide) ?_
        refine lv_icmp_ne (tgt := 69) hx hb dL_isSound_62 (by decide) (fun c311 => ?_) (fun c311 => ?_)
        · have hf := kIfF c311 hf
          refine lv_iconst (v := (0 : Int32)) hx hb dL_isSound_69 (by decide) ?_
          refine lv_icmp_ne (tgt := 91) hx hb dL_isSound_70 (by decide) (fun c312 => ?_) (fun c312 => ?_)
          · exact absurd c312 (by decide)
          · refine lv_iload hx hb dL_isSound_73 (lv_at hl 0 rfl) ?_
            refine lv_if_eq (tgt := 93) hx hb dL_isSound_75 (by decide) (fun c313 => ?_) (fun c313 => ?_)
            · refine lv_iinc (v := t20 + (1 : Int32)) (lv' := [(5, .int (t20 + (1 : Int32))), (6, .int (0 : Int32)), (4, .int v298), (3, .int t4.2), (2, .int t4.1), (0, .ref a0), (1, .int (bI x1))]) hx hb dL_isSound_93 hl (k := 1) rfl rfl (by decide) rfl (fun ls hl => ?_)
              refine lv_goto (tgt := 20) hx hb dL_isSound_96 (by decide) ?_
              obtain ⟨z314, hz314⟩ : ∃ z : Int32, z = t20 + (1 : Int32) := ⟨_, rfl⟩
              rw [← hz314] at hf
              have he := (Option.some.inj hf).symm
              have hl : lv_has ls 7 [(5, .int z314), (4, .int v298), (3, .int t4.2), (2, .int t4.1), (0, .ref a0), (1, .int (bI x1))] := by rw [hz314]; exact lv_sub hl [0, 2, 3, 4, 5, 6] rfl
              exact hI2 _ he H locs ls hP hD hS hl
            · exact absurd c313 (by decide)
        · have hf := kIfT c311 hf
          refine lv_iconst (v := (1 : Int32)) hx hb dL_isSound_65 (by decide) ?_
          refine lv_goto (tgt := 70) hx hb dL_isSound_66 (by decide) ?_
          refine lv_icmp_ne (tgt := 91) hx hb dL_isSound_70 (by decide) (fun c315 => ?_) (fun c315 => ?_)
          · refine lv_iconst (v := (0 : Int32)) hx hb dL_isSound_91 (by decide) ?_
            have he := Option.some.inj hf
            have he := hO2 _ he.symm
            have he := hO1 _ he.symm
            subst he
            exact kretz hx hb hr hlk hP hD hS dL_isSound_92
          · exact absurd c315 (by decide)
      · have hf := kIfT c308 hf
        refine lv_iconst (v := (1 : Int32)) hx hb dL_isSound_40 (by decide) ?_
        refine lv_goto (tgt := 45) hx hb dL_isSound_41 (by decide) ?_
        refine lv_istore (lv' := [(6, .int (1 : Int32)), (5, .int t20), (4, .int v298), (3, .int t4.2), (2, .int t4.1), (0, .ref a0), (1, .int (bI x1))]) hx hb dL_isSound_45 hl (by decide) rfl (fun ls hl => ?_)
        refine lv_iload hx hb dL_isSound_47 (lv_at hl 0 rfl) ?_
        refine lv_aload_n hx hb dL_isSound_49 rfl (lv_at hl 5 rfl) ?_
        refine lv_iload hx hb dL_isSound_50 (lv_at hl 1 rfl) ?_
        refine lv_bipush (v := (8 : Int32)) hx hb dL_isSound_52 (by decide) ?_
        obtain ⟨v316, h317, hf⟩ := kBind hf
        refine kgoR (krunV (wc := (wX3 cI a0 a1 a2 a3 a4 a5 a6 a7 a8 a9 a10 a11 R R2 HR HS HN TB LN PS TC TW TG CM)) (As := [.int t20, .int (8 : Int32)]) (rest := [.int (1 : Int32)]) (ci := 3) hx hb hml hown hts hK (kX3_crane l D cI fu a0 a1 a2 a3 a4 a5 a6 a7 a8 a9 a10 a11 R R2 HR HS HN TB LN PS TC TW TG CM t20 (8 : Int32) v316 h317) gL_isSound_X3_crane rfl rfl rfl hdX3_crane ⟨Nat.le_of_ble_eq_true rfl, Nat.le_of_ble_eq_true rfl⟩ hP hD rfl rfl rfl rfl hl.1 rfl (Nat.le_of_ble_eq_true rfl) dL_isSound_54 ⟨Nat.zero_le _, Nat.zero_le _⟩) hP hD hS hA [0, 1, 2, 3, 4, 5, 6, 7, 8, 9, 10, 11] rfl (fun H locs hP hS => ?_)
        refine lv_iload_n hx hb dL_isSound_57 rfl (lv_at hl 3 rfl) ?_
        refine kishr hx hb dL_isSound_58 ?_
        refine lv_iconst (v := (1 : Int32)) hx hb dL_isSound_59 (by decide) ?_
        refine lv_iand hx hb dL_isSound_60 ?_
        refine lv_iconst (v := (1 : Int32)) hx hb dL_isSound_61 (by decide) ?_
        refine lv_icmp_ne (tgt := 69) hx hb dL_isSound_62 (by decide) (fun c318 => ?_) (fun c318 => ?_)
        · have hf := kIfF c318 hf
          refine lv_iconst (v := (0 : Int32)) hx hb dL_isSound_69 (by decide) ?_
          refine lv_icmp_ne (tgt := 91) hx hb dL_isSound_70 (by decide) (fun c319 => ?_) (fun c319 => ?_)
          · refine lv_iconst (v := (0 : Int32)) hx hb dL_isSound_91 (by decide) ?_
            have he := Option.some.inj hf
            have he := hO2 _ he.symm
            have he := hO1 _ he.symm
            subst he
            exact kretz hx hb hr hlk hP hD hS dL_isSound_92
          · exact absurd c319 (by decide)
        · have hf := kIfT c318 hf
          refine lv_iconst (v := (1 : Int32)) hx hb dL_isSound_65 (by decide) ?_
          refine lv_goto (tgt := 70) hx hb dL_isSound_66 (by decide) ?_
          refine lv_icmp_ne (tgt := 91) hx hb dL_isSound_70 (by decide) (fun c320 => ?_) (fun c320 => ?_)
          · exact absurd c320 (by decide)
          · refine lv_iload hx hb dL_isSound_73 (lv_at hl 0 rfl) ?_
            refine lv_if_eq (tgt := 93) hx hb dL_isSound_75 (by decide) (fun c321 => ?_) (fun c321 => ?_)
            · exact absurd c321 (by decide)
            · refine lv_aload_n hx hb dL_isSound_78 rfl (lv_at hl 5 rfl) ?_
              refine lv_iload hx hb dL_isSound_79 (lv_at hl 1 rfl) ?_
              refine lv_iload_n hx hb dL_isSound_81 rfl (lv_at hl 3 rfl) ?_
              refine lv_iconst (v := (0 : Int32)) hx hb dL_isSound_82 (by decide) ?_
              obtain ⟨v322, h323, hf⟩ := kBind hf
              refine kgoR (krunV (wc := (wX3 cI a0 a1 a2 a3 a4 a5 a6 a7 a8 a9 a10 a11 R R2 HR HS HN TB LN PS TC TW TG CM)) (As := [.int t20, .int t4.2, .int (bI false)]) (rest := []) (ci := 3) hx hb hml hown hts hK (kX3_arc l D cI a0 a1 a2 a3 a4 a5 a6 a7 a8 a9 a10 a11 R R2 HR HS HN TB LN PS TC TW TG CM t20 t4.2 false v322 h323) gL_isSound_X3_arc rfl rfl rfl hdX3_arc ⟨Nat.le_of_ble_eq_true rfl, Nat.le_of_ble_eq_true rfl⟩ hP hD rfl rfl rfl rfl hl.1 rfl (Nat.le_of_ble_eq_true rfl) dL_isSound_83 ⟨Nat.zero_le _, Nat.zero_le _⟩) hP hD hS hA [0, 1, 2, 3, 4, 5, 6, 7, 8, 9, 10, 11] rfl (fun H locs hP hS => ?_)
              refine lv_bipush (v := (-100 : Int32)) hx hb dL_isSound_86 (by decide) ?_
              refine lv_icmp_ne (tgt := 93) hx hb dL_isSound_88 (by decide) (fun c324 => ?_) (fun c324 => ?_)
              · have hf := kIfF c324 hf
                refine lv_iinc (v := t20 + (1 : Int32)) (lv' := [(5, .int (t20 + (1 : Int32))), (6, .int (1 : Int32)), (4, .int v298), (3, .int t4.2), (2, .int t4.1), (0, .ref a0), (1, .int (bI x1))]) hx hb dL_isSound_93 hl (k := 1) rfl rfl (by decide) rfl (fun ls hl => ?_)
                refine lv_goto (tgt := 20) hx hb dL_isSound_96 (by decide) ?_
                obtain ⟨z325, hz325⟩ : ∃ z : Int32, z = t20 + (1 : Int32) := ⟨_, rfl⟩
                rw [← hz325] at hf
                have he := (Option.some.inj hf).symm
                have hl : lv_has ls 7 [(5, .int z325), (4, .int v298), (3, .int t4.2), (2, .int t4.1), (0, .ref a0), (1, .int (bI x1))] := by rw [hz325]; exact lv_sub hl [0, 2, 3, 4, 5, 6] rfl
                exact hI2 _ he H locs ls hP hD hS hl
              · have hf := kIfT c324 hf
                refine lv_iconst (v := (0 : Int32)) hx hb dL_isSound_91 (by decide) ?_
                have he := Option.some.inj hf
                have he := hO2 _ he.symm
                have he := hO1 _ he.symm
                subst he
                exact kretz hx hb hr hlk hP hD hS dL_isSound_92
set_option maxHeartbeats 4000000 in
set_option maxRecDepth 100000 in
theorem kX1_noteCount (l : Launch) (D : va_G) (cI : ClassId) (a0 a1 : Nat) (R : (Nat → Int32)) (o : Int32) (hf : fX1_noteCount R = some o) : Ct l yX1_noteCount wsX1_noteCount { frames := 0, cells := 0, slots := 0, locals := 0 } D cI [.ref a0] (wX1 cI a0 a1 R) (wX1 cI a0 a1 R) (some (.int o)) := by
  refine Ct.of (cc := cX1_noteCount) (maxL := 1) (ret := (some .int)) (by decide) rfl (Nat.le_of_ble_eq_true rfl) ?_
  intro p e s m args below meth c A F hP hD hS ls hl
  obtain ⟨hx, hb, hml, hr, hown, hts, hlk, hK, hA⟩ := F
  have hown : s.vm.findClass RX1 = some m.cls := hown
  have hl : lv_has ls 1 [(0, .ref a0)] := hl
  have hinX1 : ∀ w ∈ wsX10, w ∈ wsX1_noteCount := by decide +kernel
  have hfl11 := hts (.fieldLink RX1 11 "CraneGuard$Site" "row" "[I") (by decide +kernel)
  unfold fX1_noteCount at hf
  refine lv_aload_n hx hb dX1_noteCount_0 rfl (lv_at hl 0 rfl) ?_
  refine va_get (D := D) (ci := 1) (v := .ref a1) (C := RX1) (T := TX1) (N := 1) hx hb hts hinX1 hown hK.1 hP 0 rfl rfl 0 (by decide) hfl11 (fun _ h9 => h9) rfl dX1_noteCount_1 ?_
  refine lv_iconst (v := (3 : Int32)) hx hb dX1_noteCount_4 (by decide) ?_
  obtain ⟨v3, h4, hf⟩ := kBind hf
  refine krd hx hb hK hP 1 rfl h4 dX1_noteCount_5 ?_
  have he := Option.some.inj hf
  subst he
  exact kreti hx hb hr hlk hP hD hS dX1_noteCount_6
set_option maxHeartbeats 4000000 in
set_option maxRecDepth 100000 in
theorem kX1_partOfNote (l : Launch) (D : va_G) (cI : ClassId) (a0 a1 : Nat) (R : (Nat → Int32)) (x1 : Int32) (x2 : Int32) (o : Int32) (hf : fX1_partOfNote R x1 x2 = some o) : Ct l yX1_partOfNote wsX1_partOfNote { frames := 0, cells := 0, slots := 0, locals := 0 } D cI [.ref a0, .int x1, .int x2] (wX1 cI a0 a1 R) (wX1 cI a0 a1 R) (some (.int o)) := by
  refine Ct.of (cc := cX1_partOfNote) (maxL := 3) (ret := (some .int)) (by decide) rfl (Nat.le_of_ble_eq_true rfl) ?_
  intro p e s m args below meth c A F hP hD hS ls hl
  obtain ⟨hx, hb, hml, hr, hown, hts, hlk, hK, hA⟩ := F
  have hown : s.vm.findClass RX1 = some m.cls := hown
  have hl : lv_has ls 3 [(0, .ref a0), (1, .int x1), (2, .int x2)] := hl
  have hinX1 : ∀ w ∈ wsX10, w ∈ wsX1_partOfNote := by decide +kernel
  have hfl11 := hts (.fieldLink RX1 11 "CraneGuard$Site" "row" "[I") (by decide +kernel)
  unfold fX1_partOfNote at hf
  refine lv_aload_n hx hb dX1_partOfNote_0 rfl (lv_at hl 0 rfl) ?_
  refine va_get (D := D) (ci := 1) (v := .ref a1) (C := RX1) (T := TX1) (N := 1) hx hb hts hinX1 hown hK.1 hP 0 rfl rfl 0 (by decide) hfl11 (fun _ h9 => h9) rfl dX1_partOfNote_1 ?_
  refine lv_bipush (v := (92 : Int32)) hx hb dX1_partOfNote_4 (by decide) ?_
  refine lv_iload_n hx hb dX1_partOfNote_6 rfl (lv_at hl 1 rfl) ?_
  refine lv_iconst (v := (4 : Int32)) hx hb dX1_partOfNote_7 (by decide) ?_
  refine lv_imul hx hb dX1_partOfNote_8 ?_
  refine lv_iadd hx hb dX1_partOfNote_9 ?_
  refine lv_iload_n hx hb dX1_partOfNote_10 rfl (lv_at hl 2 rfl) ?_
  refine lv_iadd hx hb dX1_partOfNote_11 ?_
  obtain ⟨v3, h4, hf⟩ := kBind hf
  refine krd hx hb hK hP 1 rfl h4 dX1_partOfNote_12 ?_
  have he := Option.some.inj hf
  subst he
  exact kreti hx hb hr hlk hP hD hS dX1_partOfNote_13
set_option maxHeartbeats 4000000 in
set_option maxRecDepth 100000 in
theorem kX1_putCrane (l : Launch) (D : va_G) (cI : ClassId) (a0 a1 : Nat) (R : (Nat → Int32)) (x1 : Int32) (x2 : Int32) (x3 : Int32) (o : Int32 × (Nat → Int32)) (hf : fX1_putCrane R x1 x2 x3 = some o) : Ct l yX1_putCrane wsX1_putCrane { frames := 0, cells := 0, slots := 0, locals := 0 } D cI [.ref a0, .int x1, .int x2, .int x3] (wX1 cI a0 a1 R) (wX1 cI a0 a1 o.2) (some (.int o.1)) := by
  refine Ct.of (cc := cX1_putCrane) (maxL := 5) (ret := (some .int)) (by decide) rfl (Nat.le_of_ble_eq_true rfl) ?_
  intro p e s m args below meth c A F hP hD hS ls hl
  obtain ⟨hx, hb, hml, hr, hown, hts, hlk, hK, hA⟩ := F
  have hown : s.vm.findClass RX1 = some m.cls := hown
  have hl : lv_has ls 5 [(0, .ref a0), (1, .int x1), (2, .int x2), (3, .int x3)] := hl
  have hinX1 : ∀ w ∈ wsX10, w ∈ wsX1_putCrane := by decide +kernel
  have hfl11 := hts (.fieldLink RX1 11 "CraneGuard$Site" "row" "[I") (by decide +kernel)
  unfold fX1_putCrane at hf
  refine lv_aload_n hx hb dX1_putCrane_0 rfl (lv_at hl 0 rfl) ?_
  refine va_get (D := D) (ci := 1) (v := .ref a1) (C := RX1) (T := TX1) (N := 1) hx hb hts hinX1 hown hK.1 hP 0 rfl rfl 0 (by decide) hfl11 (fun _ h9 => h9) rfl dX1_putCrane_1 ?_
  refine lv_iconst (v := (2 : Int32)) hx hb dX1_putCrane_4 (by decide) ?_
  obtain ⟨v13, h14, hf⟩ := kBind hf
  refine krd hx hb hK hP 1 rfl h14 dX1_putCrane_5 ?_
  refine lv_istore (lv' := [(4, .int v13), (0, .ref a0), (1, .int x1), (2, .int x2), (3, .int x3)]) hx hb dX1_putCrane_6 hl (by decide) rfl (fun ls hl => ?_)
  refine lv_aload_n hx hb dX1_putCrane_8 rfl (lv_at hl 1 rfl) ?_
  refine va_get (D := D) (ci := 1) (v := .ref a1) (C := RX1) (T := TX1) (N := 1) hx hb hts hinX1 hown hK.1 hP 0 rfl rfl 0 (by decide) hfl11 (fun _ h9 => h9) rfl dX1_putCrane_9 ?_
  refine lv_iconst (v := (2 : Int32)) hx hb dX1_putCrane_12 (by decide) ?_
  refine lv_iload hx hb dX1_putCrane_13 (lv_at hl 0 rfl) ?_
  refine lv_iconst (v := (1 : Int32)) hx hb dX1_putCrane_15 (by decide) ?_
  refine lv_iadd hx hb dX1_putCrane_16 ?_
  obtain ⟨v15, h16, hf⟩ := kBind hf
  refine kwr hx hb hK hP hD hS 1 rfl h16 (wX1 cI a0 a1 v15) rfl dX1_putCrane_17 (fun H locs hP hD hS => ?_)
  refine lv_aload_n hx hb dX1_putCrane_18 rfl (lv_at hl 1 rfl) ?_
  refine va_get (D := D) (ci := 1) (v := .ref a1) (C := RX1) (T := TX1) (N := 1) hx hb hts hinX1 hown hK.1 hP 0 rfl rfl 0 (by decide) hfl11 (fun _ h9 => h9) rfl dX1_putCrane_19 ?_
  refine lv_iconst (v := (4 : Int32)) hx hb dX1_putCrane_22 (by decide) ?_
  refine lv_iload hx hb dX1_putCrane_23 (lv_at hl 0 rfl) ?_
  refine lv_iadd hx hb dX1_putCrane_25 ?_
  refine lv_iload_n hx hb dX1_putCrane_26 rfl (lv_at hl 2 rfl) ?_
  obtain ⟨v17, h18, hf⟩ := kBind hf
  refine kwr hx hb hK hP hD hS 1 rfl h18 (wX1 cI a0 a1 v17) rfl dX1_putCrane_27 (fun H locs hP hD hS => ?_)
  refine lv_aload_n hx hb dX1_putCrane_28 rfl (lv_at hl 1 rfl) ?_
  refine va_get (D := D) (ci := 1) (v := .ref a1) (C := RX1) (T := TX1) (N := 1) hx hb hts hinX1 hown hK.1 hP 0 rfl rfl 0 (by decide) hfl11 (fun _ h9 => h9) rfl dX1_putCrane_29 ?_
  refine lv_bipush (v := (8 : Int32)) hx hb dX1_putCrane_32 (by decide) ?_
  refine lv_iload hx hb dX1_putCrane_34 (lv_at hl 0 rfl) ?_
  refine lv_iadd hx hb dX1_putCrane_36 ?_
  refine lv_iload_n hx hb dX1_putCrane_37 rfl (lv_at hl 3 rfl) ?_
  obtain ⟨v19, h20, hf⟩ := kBind hf
  refine kwr hx hb hK hP hD hS 1 rfl h20 (wX1 cI a0 a1 v19) rfl dX1_putCrane_38 (fun H locs hP hD hS => ?_)
  refine lv_aload_n hx hb dX1_putCrane_39 rfl (lv_at hl 1 rfl) ?_
  refine va_get (D := D) (ci := 1) (v := .ref a1) (C := RX1) (T := TX1) (N := 1) hx hb hts hinX1 hown hK.1 hP 0 rfl rfl 0 (by decide) hfl11 (fun _ h9 => h9) rfl dX1_putCrane_40 ?_
  refine lv_bipush (v := (12 : Int32)) hx hb dX1_putCrane_43 (by decide) ?_
  refine lv_iload hx hb dX1_putCrane_45 (lv_at hl 0 rfl) ?_
  refine lv_iadd hx hb dX1_putCrane_47 ?_
  refine lv_iload_n hx hb dX1_putCrane_48 rfl (lv_at hl 4 rfl) ?_
  obtain ⟨v21, h22, hf⟩ := kBind hf
  refine kwr hx hb hK hP hD hS 1 rfl h22 (wX1 cI a0 a1 v21) rfl dX1_putCrane_49 (fun H locs hP hD hS => ?_)
  refine lv_aload_n hx hb dX1_putCrane_50 rfl (lv_at hl 1 rfl) ?_
  refine va_get (D := D) (ci := 1) (v := .ref a1) (C := RX1) (T := TX1) (N := 1) hx hb hts hinX1 hown hK.1 hP 0 rfl rfl 0 (by decide) hfl11 (fun _ h9 => h9) rfl dX1_putCrane_51 ?_
  refine lv_bipush (v := (16 : Int32)) hx hb dX1_putCrane_54 (by decide) ?_
  refine lv_iload hx hb dX1_putCrane_56 (lv_at hl 0 rfl) ?_
  refine lv_iadd hx hb dX1_putCrane_58 ?_
  refine lv_bipush (v := (-100 : Int32)) hx hb dX1_putCrane_59 (by decide) ?_
  obtain ⟨v23, h24, hf⟩ := kBind hf
  refine kwr hx hb hK hP hD hS 1 rfl h24 (wX1 cI a0 a1 v23) rfl dX1_putCrane_61 (fun H locs hP hD hS => ?_)
  refine lv_iload hx hb dX1_putCrane_62 (lv_at hl 0 rfl) ?_
  have he := Option.some.inj hf
  subst he
  exact kreti hx hb hr hlk hP hD hS dX1_putCrane_64
set_option maxHeartbeats 4000000 in
set_option maxRecDepth 100000 in
theorem kX1_putNote (l : Launch) (D : va_G) (cI : ClassId) (a0 a1 : Nat) (R : (Nat → Int32)) (x1 : Int32) (x2 : Int32) (x3 : Int32) (o : (Nat → Int32)) (hf : fX1_putNote R x1 x2 x3 = some o) : Ct l yX1_putNote wsX1_putNote { frames := 0, cells := 0, slots := 0, locals := 0 } D cI [.ref a0, .int x1, .int x2, .int x3] (wX1 cI a0 a1 R) (wX1 cI a0 a1 o) none := by
  refine Ct.of (cc := cX1_putNote) (maxL := 5) (ret := none) (by decide) rfl (Nat.le_of_ble_eq_true rfl) ?_
  intro p e s m args below meth c A F hP hD hS ls hl
  obtain ⟨hx, hb, hml, hr, hown, hts, hlk, hK, hA⟩ := F
  have hown : s.vm.findClass RX1 = some m.cls := hown
  have hl : lv_has ls 5 [(0, .ref a0), (1, .int x1), (2, .int x2), (3, .int x3)] := hl
  have hinX1 : ∀ w ∈ wsX10, w ∈ wsX1_putNote := by decide +kernel
  have hfl11 := hts (.fieldLink RX1 11 "CraneGuard$Site" "row" "[I") (by decide +kernel)
  unfold fX1_putNote at hf
  refine lv_bipush (v := (92 : Int32)) hx hb dX1_putNote_0 (by decide) ?_
  refine lv_aload_n hx hb dX1_putNote_2 rfl (lv_at hl 0 rfl) ?_
  refine va_get (D := D) (ci := 1) (v := .ref a1) (C := RX1) (T := TX1) (N := 1) hx hb hts hinX1 hown hK.1 hP 0 rfl rfl 0 (by decide) hfl11 (fun _ h9 => h9) rfl dX1_putNote_3 ?_
  refine lv_iconst (v := (3 : Int32)) hx hb dX1_putNote_6 (by decide) ?_
  obtain ⟨v17, h18, hf⟩ := kBind hf
  refine krd hx hb hK hP 1 rfl h18 dX1_putNote_7 ?_
  refine lv_iconst (v := (4 : Int32)) hx hb dX1_putNote_8 (by decide) ?_
  refine lv_imul hx hb dX1_putNote_9 ?_
  refine lv_iadd hx hb dX1_putNote_10 ?_
  refine lv_istore (lv' := [(4, .int ((92 : Int32) + (v17 * (4 : Int32)))), (0, .ref a0), (1, .int x1), (2, .int x2), (3, .int x3)]) hx hb dX1_putNote_11 hl (by decide) rfl (fun ls hl => ?_)
  refine lv_aload_n hx hb dX1_putNote_13 rfl (lv_at hl 1 rfl) ?_
  refine va_get (D := D) (ci := 1) (v := .ref a1) (C := RX1) (T := TX1) (N := 1) hx hb hts hinX1 hown hK.1 hP 0 rfl rfl 0 (by decide) hfl11 (fun _ h9 => h9) rfl dX1_putNote_14 ?_
  refine lv_iload hx hb dX1_putNote_17 (lv_at hl 0 rfl) ?_
  refine lv_aload_n hx hb dX1_putNote_19 rfl (lv_at hl 1 rfl) ?_
  refine va_get (D := D) (ci := 1) (v := .ref a1) (C := RX1) (T := TX1) (N := 1) hx hb hts hinX1 hown hK.1 hP 0 rfl rfl 0 (by decide) hfl11 (fun _ h9 => h9) rfl dX1_putNote_20 ?_
  refine lv_iconst (v := (0 : Int32)) hx hb dX1_putNote_23 (by decide) ?_
  obtain ⟨v19, h20, hf⟩ := kBind hf
  refine krd hx hb hK hP 1 rfl h20 dX1_putNote_24 ?_
  obtain ⟨v21, h22, hf⟩ := kBind hf
  refine kwr hx hb hK hP hD hS 1 rfl h22 (wX1 cI a0 a1 v21) rfl dX1_putNote_25 (fun H locs hP hD hS => ?_)
  refine lv_aload_n hx hb dX1_putNote_26 rfl (lv_at hl 1 rfl) ?_
  refine va_get (D := D) (ci := 1) (v := .ref a1) (C := RX1) (T := TX1) (N := 1) hx hb hts hinX1 hown hK.1 hP 0 rfl rfl 0 (by decide) hfl11 (fun _ h9 => h9) rfl dX1_putNote_27 ?_
  refine lv_iload hx hb dX1_putNote_30 (lv_at hl 0 rfl) ?_
  refine lv_iconst (v := (1 : Int32)) hx hb dX1_putNote_32 (by decide) ?_
  refine lv_iadd hx hb dX1_putNote_33 ?_
  refine lv_iload_n hx hb dX1_putNote_34 rfl (lv_at hl 2 rfl) ?_
  obtain ⟨v23, h24, hf⟩ := kBind hf
  refine kwr hx hb hK hP hD hS 1 rfl h24 (wX1 cI a0 a1 v23) rfl dX1_putNote_35 (fun H locs hP hD hS => ?_)
  refine lv_aload_n hx hb dX1_putNote_36 rfl (lv_at hl 1 rfl) ?_
  refine va_get (D := D) (ci := 1) (v := .ref a1) (C := RX1) (T := TX1) (N := 1) hx hb hts hinX1 hown hK.1 hP 0 rfl rfl 0 (by decide) hfl11 (fun _ h9 => h9) rfl dX1_putNote_37 ?_
  refine lv_iload hx hb dX1_putNote_40 (lv_at hl 0 rfl) ?_
  refine lv_iconst (v := (2 : Int32)) hx hb dX1_putNote_42 (by decide) ?_
  refine lv_iadd hx hb dX1_putNote_43 ?_
  refine lv_iload_n hx hb dX1_putNote_44 rfl (lv_at hl 3 rfl) ?_
  obtain ⟨v25, h26, hf⟩ := kBind hf
  refine kwr hx hb hK hP hD hS 1 rfl h26 (wX1 cI a0 a1 v25) rfl dX1_putNote_45 (fun H locs hP hD hS => ?_)
  refine lv_aload_n hx hb dX1_putNote_46 rfl (lv_at hl 1 rfl) ?_
  refine va_get (D := D) (ci := 1) (v := .ref a1) (C := RX1) (T := TX1) (N := 1) hx hb hts hinX1 hown hK.1 hP 0 rfl rfl 0 (by decide) hfl11 (fun _ h9 => h9) rfl dX1_putNote_47 ?_
  refine lv_iload hx hb dX1_putNote_50 (lv_at hl 0 rfl) ?_
  refine lv_iconst (v := (3 : Int32)) hx hb dX1_putNote_52 (by decide) ?_
  refine lv_iadd hx hb dX1_putNote_53 ?_
  refine lv_iload_n hx hb dX1_putNote_54 rfl (lv_at hl 4 rfl) ?_
  obtain ⟨v27, h28, hf⟩ := kBind hf
  refine kwr hx hb hK hP hD hS 1 rfl h28 (wX1 cI a0 a1 v27) rfl dX1_putNote_55 (fun H locs hP hD hS => ?_)
  refine lv_aload_n hx hb dX1_putNote_56 rfl (lv_at hl 1 rfl) ?_
  refine va_get (D := D) (ci := 1) (v := .ref a1) (C := RX1) (T := TX1) (N := 1) hx hb hts hinX1 hown hK.1 hP 0 rfl rfl 0 (by decide) hfl11 (fun _ h9 => h9) rfl dX1_putNote_57 ?_
  refine lv_iconst (v := (3 : Int32)) hx hb dX1_putNote_60 (by decide) ?_
  refine lv_dup2_11 hx hb dX1_putNote_61 rfl rfl ?_
  obtain ⟨v29, h30, hf⟩ := kBind hf
  refine krd hx hb hK hP 1 rfl h30 dX1_putNote_62 ?_
  refine lv_iconst (v := (1 : Int32)) hx hb dX1_putNote_63 (by decide) ?_
  refine lv_iadd hx hb dX1_putNote_64 ?_
  obtain ⟨v31, h32, hf⟩ := kBind hf
  refine kwr hx hb hK hP hD hS 1 rfl h32 (wX1 cI a0 a1 v31) rfl dX1_putNote_65 (fun H locs hP hD hS => ?_)
  have he := Option.some.inj hf
  subst he
  exact kretv hx hb hr hlk hP hD hS dX1_putNote_66
set_option maxHeartbeats 4000000 in
set_option maxRecDepth 100000 in
theorem kX2_byteHere (l : Launch) (D : va_G) (cI : ClassId) (a0 a1 a2 a3 a4 : Nat) (TB : (Nat → Int32)) (LN : Int32) (PS : Int32) (TC : (Nat → Int32)) (TW : (Nat → Int32)) (TG : (Nat → Int32)) (CM : Int32) (o : Int32) (hf : fX2_byteHere TB LN PS = some o) : Ct l yX2_byteHere wsX2_byteHere { frames := 0, cells := 0, slots := 0, locals := 0 } D cI [.ref a0] (wX2 cI a0 a1 a2 a3 a4 TB LN PS TC TW TG CM) (wX2 cI a0 a1 a2 a3 a4 TB LN PS TC TW TG CM) (some (.int o)) := by
  refine Ct.of (cc := cX2_byteHere) (maxL := 1) (ret := (some .int)) (by decide) rfl (Nat.le_of_ble_eq_true rfl) ?_
  intro p e s m args below meth c A F hP hD hS ls hl
  obtain ⟨hx, hb, hml, hr, hown, hts, hlk, hK, hA⟩ := F
  have hown : s.vm.findClass RX2 = some m.cls := hown
  have hl : lv_has ls 1 [(0, .ref a0)] := hl
  have hinX2 : ∀ w ∈ wsX20, w ∈ wsX2_byteHere := by decide +kernel
  have hfl11 := hts (.fieldLink RX2 11 "CraneGuard$Text" "bytes" "[I") (by decide +kernel)
  have hfl15 := hts (.fieldLink RX2 15 "CraneGuard$Text" "length" "I") (by decide +kernel)
  have hfl19 := hts (.fieldLink RX2 19 "CraneGuard$Text" "position" "I") (by decide +kernel)
  unfold fX2_byteHere at hf
  refine lv_aload_n hx hb dX2_byteHere_0 rfl (lv_at hl 0 rfl) ?_
  refine va_get (D := D) (ci := 2) (v := .int PS) (C := RX2) (T := TX2) (N := 7) hx hb hts hinX2 hown hK.1 hP 0 rfl rfl 2 (by decide) hfl19 (fun _ h9 => h9) rfl dX2_byteHere_1 ?_
  refine lv_aload_n hx hb dX2_byteHere_4 rfl (lv_at hl 0 rfl) ?_
  refine va_get (D := D) (ci := 2) (v := .int LN) (C := RX2) (T := TX2) (N := 7) hx hb hts hinX2 hown hK.1 hP 0 rfl rfl 1 (by decide) hfl15 (fun _ h9 => h9) rfl dX2_byteHere_5 ?_
  refine lv_icmp_ge (tgt := 23) hx hb dX2_byteHere_8 (by decide) (fun c4 => ?_) (fun c4 => ?_)
  · have hf := kIfT c4 hf
    refine lv_iconst (v := (-1 : Int32)) hx hb dX2_byteHere_23 (by decide) ?_
    have he := Option.some.inj hf
    subst he
    exact kreti hx hb hr hlk hP hD hS dX2_byteHere_24
  · have hf := kIfF c4 hf
    refine lv_aload_n hx hb dX2_byteHere_11 rfl (lv_at hl 0 rfl) ?_
    refine va_get (D := D) (ci := 2) (v := .ref a1) (C := RX2) (T := TX2) (N := 7) hx hb hts hinX2 hown hK.1 hP 0 rfl rfl 0 (by decide) hfl11 (fun _ h9 => h9) rfl dX2_byteHere_12 ?_
    refine lv_aload_n hx hb dX2_byteHere_15 rfl (lv_at hl 0 rfl) ?_
    refine va_get (D := D) (ci := 2) (v := .int PS) (C := RX2) (T := TX2) (N := 7) hx hb hts hinX2 hown hK.1 hP 0 rfl rfl 2 (by decide) hfl19 (fun _ h9 => h9) rfl dX2_byteHere_16 ?_
    obtain ⟨v5, h6, hf⟩ := kBind hf
    refine krd hx hb hK hP 1 rfl h6 dX2_byteHere_19 ?_
    refine lv_goto (tgt := 24) hx hb dX2_byteHere_20 (by decide) ?_
    have he := Option.some.inj hf
    subst he
    exact kreti hx hb hr hlk hP hD hS dX2_byteHere_24
set_option maxHeartbeats 4000000 in
set_option maxRecDepth 100000 in
theorem kX2_carryOut (l : Launch) (D : va_G) (cI : ClassId) (fu : Nat) (a0 a1 a2 a3 a4 a5 a6 : Nat) (TB : (Nat → Int32)) (LN : Int32) (PS : Int32) (TC : (Nat → Int32)) (TW : (Nat → Int32)) (TG : (Nat → Int32)) (CM : Int32) (R : (Nat → Int32)) (o : (Nat → Int32)) (hf : fX2_carryOut fu TC TW TG CM R = some o) : Ct l yX2_carryOut wsX2_carryOut { frames := 3, cells := 0, slots := 0, locals := 68 } D cI [.ref a0, .ref a5] (wX2_X1 cI a0 a1 a2 a3 a4 a5 a6 TB LN PS TC TW TG CM R) (wX2_X1 cI a0 a1 a2 a3 a4 a5 a6 TB LN PS TC TW TG CM o) none := by
  refine Ct.of (cc := cX2_carryOut) (maxL := 3) (ret := none) (by decide) rfl (Nat.le_of_ble_eq_true rfl) ?_
  intro p e s m args below meth c A F hP hD hS ls hl
  obtain ⟨hx, hb, hml, hr, hown, hts, hlk, hK, hA⟩ := F
  have hown : s.vm.findClass RX2 = some m.cls := hown
  have hl : lv_has ls 3 [(0, .ref a0), (1, .ref a5)] := hl
  have hinX2 : ∀ w ∈ wsX20, w ∈ wsX2_carryOut := by decide +kernel
  have hfl22 := hts (.fieldLink RX2 22 "CraneGuard$Text" "craneOf" "[I") (by decide +kernel)
  have hfl25 := hts (.fieldLink RX2 25 "CraneGuard$Text" "wayOf" "[I") (by decide +kernel)
  have hfl28 := hts (.fieldLink RX2 28 "CraneGuard$Text" "targetOf" "[I") (by decide +kernel)
  have hfl31 := hts (.fieldLink RX2 31 "CraneGuard$Text" "commands" "I") (by decide +kernel)
  unfold fX2_carryOut at hf
  refine lv_iconst (v := (0 : Int32)) hx hb dX2_carryOut_0 (by decide) ?_
  refine lv_istore_n (lv' := [(2, .int (0 : Int32)), (0, .ref a0), (1, .ref a5)]) hx hb dX2_carryOut_1 rfl hl (by decide) rfl (fun ls hl => ?_)
  have hl : lv_has ls 3 [(2, .int (0 : Int32)), (0, .ref a0), (1, .ref a5)] := hl
  refine klp hf (fun t2 : (Nat → Int32) × Int32 => (wX2_X1 cI a0 a1 a2 a3 a4 a5 a6 TB LN PS TC TW TG CM t2.1)) 3 (fun t2 : (Nat → Int32) × Int32 => [(2, .int t2.2), (0, .ref a0), (1, .ref a5)]) ?_ hP hD hS hl
  intro t2 x2_ hf hI1 hO1 H locs ls hP hD hS hl
  unfold fX2_carryOut_L2 at hf
  have hP : va_P D vwCl (wX2_X1 cI a0 a1 a2 a3 a4 a5 a6 TB LN PS TC TW TG CM t2.1) H := hP
  have hD : va_D A (wX2_X1 cI a0 a1 a2 a3 a4 a5 a6 TB LN PS TC TW TG CM t2.1) := hD
  have hl : lv_has ls 3 [(2, .int t2.2), (0, .ref a0), (1, .ref a5)] := hl
  refine lv_iload_n hx hb dX2_carryOut_2 rfl (lv_at hl 0 rfl) ?_
  refine lv_aload_n hx hb dX2_carryOut_3 rfl (lv_at hl 1 rfl) ?_
  refine va_get (D := D) (ci := 2) (v := .int CM) (C := RX2) (T := TX2) (N := 7) hx hb hts hinX2 hown hK.1 hP 0 rfl rfl 6 (by decide) hfl31 (fun _ h9 => h9) rfl dX2_carryOut_4 ?_
  refine lv_icmp_ge (tgt := 39) hx hb dX2_carryOut_7 (by decide) (fun c21 => ?_) (fun c21 => ?_)
  · have hf := kIfT c21 hf
    have he := Option.some.inj hf
    have he := hO1 _ he.symm
    subst he
    exact kretv hx hb hr hlk hP hD hS dX2_carryOut_39
  · have hf := kIfF c21 hf
    refine lv_aload_n hx hb dX2_carryOut_10 rfl (lv_at hl 2 rfl) ?_
    refine lv_aload_n hx hb dX2_carryOut_11 rfl (lv_at hl 1 rfl) ?_
    refine va_get (D := D) (ci := 2) (v := .ref a2) (C := RX2) (T := TX2) (N := 7) hx hb hts hinX2 hown hK.1 hP 0 rfl rfl 3 (by decide) hfl22 (fun _ h9 => h9) rfl dX2_carryOut_12 ?_
    refine lv_iload_n hx hb dX2_carryOut_15 rfl (lv_at hl 0 rfl) ?_
    obtain ⟨v22, h23, hf⟩ := kBind hf
    refine krd hx hb hK hP 2 rfl h23 dX2_carryOut_16 ?_
    refine lv_aload_n hx hb dX2_carryOut_17 rfl (lv_at hl 1 rfl) ?_
    refine va_get (D := D) (ci := 2) (v := .ref a4) (C := RX2) (T := TX2) (N := 7) hx hb hts hinX2 hown hK.1 hP 0 rfl rfl 5 (by decide) hfl28 (fun _ h9 => h9) rfl dX2_carryOut_18 ?_
    refine lv_iload_n hx hb dX2_carryOut_21 rfl (lv_at hl 0 rfl) ?_
    obtain ⟨v24, h25, hf⟩ := kBind hf
    refine krd hx hb hK hP 4 rfl h25 dX2_carryOut_22 ?_
    refine lv_aload_n hx hb dX2_carryOut_23 rfl (lv_at hl 1 rfl) ?_
    refine va_get (D := D) (ci := 2) (v := .ref a3) (C := RX2) (T := TX2) (N := 7) hx hb hts hinX2 hown hK.1 hP 0 rfl rfl 4 (by decide) hfl25 (fun _ h9 => h9) rfl dX2_carryOut_24 ?_
    refine lv_iload_n hx hb dX2_carryOut_27 rfl (lv_at hl 0 rfl) ?_
    obtain ⟨v26, h27, hf⟩ := kBind hf
    refine krd hx hb hK hP 3 rfl h27 dX2_carryOut_28 ?_
    obtain ⟨v28, h29, hf⟩ := kBind hf
    refine kgoJ (wr := [(a0, .inr (2, [.ref a1, .int LN, .int PS, .ref a2, .ref a3, .ref a4, .int CM])), (a1, .inl (cI, 80, .inl TB)), (a2, .inl (cI, 20, .inl TC)), (a3, .inl (cI, 20, .inl TW)), (a4, .inl (cI, 20, .inl TG))]) (w2 := (wX2_X1 cI a0 a1 a2 a3 a4 a5 a6 TB LN PS TC TW TG CM v28.2)) (krunV (wc := (wX1 cI a5 a6 t2.1)) (As := [.int v22, .int v24, .int v26]) (rest := []) (ci := 1) hx hb hml hown hts hK (kX1_aim l D cI a5 a6 t2.1 v22 v24 v26 v28 h29) gX2_carryOut_X1_aim rfl rfl rfl hdX1_aim ⟨Nat.le_of_ble_eq_true rfl, Nat.le_of_ble_eq_true rfl⟩ (hP.sub [5, 6] rfl) (hD.sub [5, 6] (by decide) rfl) rfl rfl rfl rfl hl.1 rfl (Nat.le_of_ble_eq_true rfl) dX2_carryOut_29 ⟨Nat.zero_le _, Nat.zero_le _⟩) hP hD hS hA [5, 6] [0, 1, 2, 3, 4] [0, 1, 2, 3, 4, 5, 6] rfl rfl (by decide) (by decide) (by decide) rfl (fun H locs hP hD hS => ?_)
    refine lv_pop hx hb dX2_carryOut_32 rfl ?_
    refine lv_iinc (v := t2.2 + (1 : Int32)) (lv' := [(2, .int (t2.2 + (1 : Int32))), (0, .ref a0), (1, .ref a5)]) hx hb dX2_carryOut_33 hl (k := 0) rfl rfl (by decide) rfl (fun ls hl => ?_)
    refine lv_goto (tgt := 2) hx hb dX2_carryOut_36 (by decide) ?_
    obtain ⟨z30, hz30⟩ : ∃ z : Int32, z = t2.2 + (1 : Int32) := ⟨_, rfl⟩
    rw [← hz30] at hf
    have he := (Option.some.inj hf).symm
    have hl : lv_has ls 3 [(2, .int z30), (0, .ref a0), (1, .ref a5)] := by rw [hz30]; exact lv_sub hl [0, 1, 2] rfl
    exact hI1 _ he H locs ls hP hD hS hl
set_option maxHeartbeats 4000000 in
set_option maxRecDepth 100000 in
theorem kX2_skipBlanks (l : Launch) (D : va_G) (cI : ClassId) (fu : Nat) (a0 a1 a2 a3 a4 : Nat) (TB : (Nat → Int32)) (LN : Int32) (PS : Int32) (TC : (Nat → Int32)) (TW : (Nat → Int32)) (TG : (Nat → Int32)) (CM : Int32) (o : Int32) (hf : fX2_skipBlanks fu TB LN PS = some o) : Ct l yX2_skipBlanks wsX2_skipBlanks { frames := 0, cells := 0, slots := 0, locals := 0 } D cI [.ref a0] (wX2 cI a0 a1 a2 a3 a4 TB LN PS TC TW TG CM) (wX2 cI a0 a1 a2 a3 a4 TB LN o TC TW TG CM) none := by
  refine Ct.of (cc := cX2_skipBlanks) (maxL := 1) (ret := none) (by decide) rfl (Nat.le_of_ble_eq_true rfl) ?_
  intro p e s m args below meth c A F hP hD hS ls hl
  obtain ⟨hx, hb, hml, hr, hown, hts, hlk, hK, hA⟩ := F
  have hown : s.vm.findClass RX2 = some m.cls := hown
  have hl : lv_has ls 1 [(0, .ref a0)] := hl
  have hinX2 : ∀ w ∈ wsX20, w ∈ wsX2_skipBlanks := by decide +kernel
  have hfl11 := hts (.fieldLink RX2 11 "CraneGuard$Text" "bytes" "[I") (by decide +kernel)
  have hfl15 := hts (.fieldLink RX2 15 "CraneGuard$Text" "length" "I") (by decide +kernel)
  have hfl19 := hts (.fieldLink RX2 19 "CraneGuard$Text" "position" "I") (by decide +kernel)
  unfold fX2_skipBlanks at hf
  have hl : lv_has ls 1 [(0, .ref a0)] := hl
  refine klp hf (fun t0 : Int32 => (wX2 cI a0 a1 a2 a3 a4 TB LN t0 TC TW TG CM)) 1 (fun t0 : Int32 => [(0, .ref a0)]) ?_ hP hD hS hl
  intro t0 x0_ hf hI1 hO1 H locs ls hP hD hS hl
  unfold fX2_skipBlanks_L0 at hf
  have hP : va_P D vwCl (wX2 cI a0 a1 a2 a3 a4 TB LN t0 TC TW TG CM) H := hP
  have hD : va_D A (wX2 cI a0 a1 a2 a3 a4 TB LN t0 TC TW TG CM) := hD
  have hl : lv_has ls 1 [(0, .ref a0)] := hl
  refine lv_aload_n hx hb dX2_skipBlanks_0 rfl (lv_at hl 0 rfl) ?_
  refine va_get (D := D) (ci := 2) (v := .int t0) (C := RX2) (T := TX2) (N := 7) hx hb hts hinX2 hown hK.1 hP 0 rfl rfl 2 (by decide) hfl19 (fun _ h9 => h9) rfl dX2_skipBlanks_1 ?_
  refine lv_aload_n hx hb dX2_skipBlanks_4 rfl (lv_at hl 0 rfl) ?_
  refine va_get (D := D) (ci := 2) (v := .int LN) (C := RX2) (T := TX2) (N := 7) hx hb hts hinX2 hown hK.1 hP 0 rfl rfl 1 (by decide) hfl15 (fun _ h9 => h9) rfl dX2_skipBlanks_5 ?_
  refine lv_icmp_ge (tgt := 38) hx hb dX2_skipBlanks_8 (by decide) (fun c11 => ?_) (fun c11 => ?_)
  · have hf := kIfT c11 hf
    have he := Option.some.inj hf
    have he := hO1 _ he.symm
    subst he
    exact kretv hx hb hr hlk hP hD hS dX2_skipBlanks_38
  · have hf := kIfF c11 hf
    refine lv_aload_n hx hb dX2_skipBlanks_11 rfl (lv_at hl 0 rfl) ?_
    refine va_get (D := D) (ci := 2) (v := .ref a1) (C := RX2) (T := TX2) (N := 7) hx hb hts hinX2 hown hK.1 hP 0 rfl rfl 0 (by decide) hfl11 (fun _ h9 => h9) rfl dX2_skipBlanks_12 ?_
    refine lv_aload_n hx hb dX2_skipBlanks_15 rfl (lv_at hl 0 rfl) ?_
    refine va_get (D := D) (ci := 2) (v := .int t0) (C := RX2) (T := TX2) (N := 7) hx hb hts hinX2 hown hK.1 hP 0 rfl rfl 2 (by decide) hfl19 (fun _ h9 => h9) rfl dX2_skipBlanks_16 ?_
    obtain ⟨v12, h13, hf⟩ := kBind hf
    refine krd hx hb hK hP 1 rfl h13 dX2_skipBlanks_19 ?_
    refine lv_bipush (v := (32 : Int32)) hx hb dX2_skipBlanks_20 (by decide) ?_
    refine lv_icmp_ne (tgt := 38) hx hb dX2_skipBlanks_22 (by decide) (fun c14 => ?_) (fun c14 => ?_)
    · have hf := kIfF c14 hf
      have he := Option.some.inj hf
      have he := hO1 _ he.symm
      subst he
      exact kretv hx hb hr hlk hP hD hS dX2_skipBlanks_38
    · have hf := kIfT c14 hf
      refine lv_aload_n hx hb dX2_skipBlanks_25 rfl (lv_at hl 0 rfl) ?_
      refine lv_dup hx hb dX2_skipBlanks_26 rfl ?_
      refine va_get (D := D) (ci := 2) (v := .int t0) (C := RX2) (T := TX2) (N := 7) hx hb hts hinX2 hown hK.1 hP 0 rfl rfl 2 (by decide) hfl19 (fun _ h9 => h9) rfl dX2_skipBlanks_27 ?_
      refine lv_iconst (v := (1 : Int32)) hx hb dX2_skipBlanks_30 (by decide) ?_
      refine lv_iadd hx hb dX2_skipBlanks_31 ?_
      refine va_put (D := D) (ci := 2) (v := .int (t0 + (1 : Int32))) (ty := .int) (C := RX2) (T := TX2) (N := 7) hx hb hts hinX2 tyX2 tyX2_ok nmX2 hown hK.1 hP hD hS 0 rfl rfl 2 (by decide) hfl19 (fun _ h9 => h9) rfl (by decide +kernel) rfl rfl (Nat.le_of_ble_eq_true rfl) dX2_skipBlanks_32 (fun H locs hP hD hS => ?_)
      have hP : va_P D vwCl (wX2 cI a0 a1 a2 a3 a4 TB LN (t0 + (1 : Int32)) TC TW TG CM) H := hP
      have hD : va_D A (wX2 cI a0 a1 a2 a3 a4 TB LN (t0 + (1 : Int32)) TC TW TG CM) := hD
      refine lv_goto (tgt := 0) hx hb dX2_skipBlanks_35 (by decide) ?_
      obtain ⟨z15, hz15⟩ : ∃ z : Int32, z = t0 + (1 : Int32) := ⟨_, rfl⟩
      rw [← hz15] at hf
      have hP : va_P D vwCl (wX2 cI a0 a1 a2 a3 a4 TB LN z15 TC TW TG CM) H := by rw [hz15]; exact hP
      have hD : va_D A (wX2 cI a0 a1 a2 a3 a4 TB LN z15 TC TW TG CM) := by rw [hz15]; exact hD
      have he := (Option.some.inj hf).symm
      have hl : lv_has ls 1 [(0, .ref a0)] := lv_sub hl [0] rfl
      exact hI1 _ he H locs ls hP hD hS hl
