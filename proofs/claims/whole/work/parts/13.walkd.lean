set_option maxHeartbeats 4000000 in
set_option maxRecDepth 100000 in
theorem kX2_skipBlanks (l : Launch) (D : va_G) (cI : ClassId) (fu : Nat) (a0 a1 a2 a3 a4 : Nat) (TB : (Nat → Int32)) (LN : Int32) (PS : Int32) (TC : (Nat → Int32)) (TW : (Nat → Int32)) (TG : (Nat → Int32)) (CM : Int32) (o : Int32) (hf : fX2_skipBlanks fu TB LN PS = some o) : Ct l yX2_skipBlanks wsX2_skipBlanks { frames := 0, cells := 0, slots := 0, locals := 0 } D cI [.ref a0] (wX2 cI a0 a1 a2 a3 a4 TB LN PS TC TW TG CM) (wX2 cI a0 a1 a2 a3 a4 TB LN o TC TW TG CM) none := by
  refine Ct.of (cc := cX2_skipBlanks) (maxL := 1) (ret := none) (by decide) rfl (Nat.le_of_ble_eq_true rfl) ?_
  intro p e s m args below meth c A F hP hD hS ls hl
  obtain ⟨hx, hb, hml, hr, hown, hts, hlk, hK, hA⟩ := F
  have hown : s.vm.findClass RX2 = some m.cls := hown
  have hl : lv_has ls 1 [(0, .ref a0)] := hl
  have hinX2 : ∀ w ∈ wsX20, w ∈ wsX2_skipBlanks := by decide +kernel
  have hfl11 := hts (.fieldLink RX2 11 "CraneGuard$Text" "bytes" "[I") (by decide +kernel)
  have hfl15 := hts (.fieldLink RX2 15 "CraneGuard$Text" "length" "I") (by decide +kernel)
  have hfl19 := hts (.fieldLink RX2 19 "CraneGuard$Text" "position" "I") (by decide +kernel)
  unfold fX2_skipBlanks at hf
  have hl : lv_has ls 1 [(0, .ref a0)] := hl
  refine klp hf (fun t0 : Int32 => (wX2 cI a0 a1 a2 a3 a4 TB LN t0 TC TW TG CM)) 1 (fun t0 : Int32 => [(0, .ref a0)]) ?_ hP hD hS hl
  intro t0 x0_ hf hI1 hO1 H locs ls hP hD hS hl
  unfold fX2_skipBlanks_L0 at hf
  have hP : va_P D vwCl (wX2 cI a0 a1 a2 a3 a4 TB LN t0 TC TW TG CM) H := hP
  have hD : va_D A (wX2 cI a0 a1 a2 a3 a4 TB LN t0 TC TW TG CM) := hD
  have hl : lv_has ls 1 [(0, .ref a0)] := hl
  refine lv_aload_n hx hb dX2_skipBlanks_0 rfl (lv_at hl 0 rfl) ?_
  refine va_get (D := D) (ci := 2) (v := .int t0) (C := RX2) (T := TX2) (N := 7) hx hb hts hinX2 hown hK.1 hP 0 rfl rfl 2 (by decide) hfl19 (fun _ h9 => h9) rfl dX2_skipBlanks_1 ?_
  refine lv_aload_n hx hb dX2_skipBlanks_4 rfl (lv_at hl 0 rfl) ?_
  refine va_get (D := D) (ci := 2) (v := .int LN) (C := RX2) (T := TX2) (N := 7) hx hb hts hinX2 hown hK.1 hP 0 rfl rfl 1 (by decide) hfl15 (fun _ h9 => h9) rfl dX2_skipBlanks_5 ?_
  refine lv_icmp_ge (tgt := 38) hx hb dX2_skipBlanks_8 (by decide) (fun c6 => ?_) (fun c6 => ?_)
  · have hf := kIfT c6 hf
    have he := Option.some.inj hf
    have he := hO1 _ he.symm
    subst he
    exact kretv hx hb hr hlk hP hD hS dX2_skipBlanks_38
  · have hf := kIfF c6 hf
    refine lv_aload_n hx hb dX2_skipBlanks_11 rfl (lv_at hl 0 rfl) ?_
    refine va_get (D := D) (ci := 2) (v := .ref a1) (C := RX2) (T := TX2) (N := 7) hx hb hts hinX2 hown hK.1 hP 0 rfl rfl 0 (by decide) hfl11 (fun _ h9 => h9) rfl dX2_skipBlanks_12 ?_
    refine lv_aload_n hx hb dX2_skipBlanks_15 rfl (lv_at hl 0 rfl) ?_
    refine va_get (D := D) (ci := 2) (v := .int t0) (C := RX2) (T := TX2) (N := 7) hx hb hts hinX2 hown hK.1 hP 0 rfl rfl 2 (by decide) hfl19 (fun _ h9 => h9) rfl dX2_skipBlanks_16 ?_
    obtain ⟨v7, h8, hf⟩ := kBind hf
    refine krd hx hb hK hP 1 rfl h8 dX2_skipBlanks_19 ?_
    refine lv_bipush (v := (32 : Int32)) hx hb dX2_skipBlanks_20 (by decide) ?_
    refine lv_icmp_ne (tgt := 38) hx hb dX2_skipBlanks_22 (by decide) (fun c9 => ?_) (fun c9 => ?_)
    · have hf := kIfF c9 hf
      have he := Option.some.inj hf
      have he := hO1 _ he.symm
      subst he
      exact kretv hx hb hr hlk hP hD hS dX2_skipBlanks_38
    · have hf := kIfT c9 hf
      refine lv_aload_n hx hb dX2_skipBlanks_25 rfl (lv_at hl 0 rfl) ?_
      refine lv_dup hx hb dX2_skipBlanks_26 rfl ?_
      refine va_get (D := D) (ci := 2) (v := .int t0) (C := RX2) (T := TX2) (N := 7) hx hb hts hinX2 hown hK.1 hP 0 rfl rfl 2 (by decide) hfl19 (fun _ h9 => h9) rfl dX2_skipBlanks_27 ?_
      refine lv_iconst (v := (1 : Int32)) hx hb dX2_skipBlanks_30 (by decide) ?_
      refine lv_iadd hx hb dX2_skipBlanks_31 ?_
      refine va_put (D := D) (ci := 2) (v := .int (t0 + (1 : Int32))) (ty := .int) (C := RX2) (T := TX2) (N := 7) hx hb hts hinX2 tyX2 tyX2_ok nmX2 hown hK.1 hP hD hS 0 rfl rfl 2 (by decide) hfl19 (fun _ h9 => h9) rfl (by decide +kernel) rfl rfl (Nat.le_of_ble_eq_true rfl) dX2_skipBlanks_32 (fun H locs hP hD hS => ?_)
      have hP : va_P D vwCl (wX2 cI a0 a1 a2 a3 a4 TB LN (t0 + (1 : Int32)) TC TW TG CM) H := hP
      have hD : va_D A (wX2 cI a0 a1 a2 a3 a4 TB LN (t0 + (1 : Int32)) TC TW TG CM) := hD
      refine lv_goto (tgt := 0) hx hb dX2_skipBlanks_35 (by decide) ?_
      obtain ⟨z10, hz10⟩ : ∃ z : Int32, z = t0 + (1 : Int32) := ⟨_, rfl⟩
      rw [← hz10] at hf
      have hP : va_P D vwCl (wX2 cI a0 a1 a2 a3 a4 TB LN z10 TC TW TG CM) H := by rw [hz10]; exact hP
      have hD : va_D A (wX2 cI a0 a1 a2 a3 a4 TB LN z10 TC TW TG CM) := by rw [hz10]; exact hD
      have he := (Option.some.inj hf).symm
      have hl : lv_has ls 1 [(0, .ref a0)] := lv_sub hl [0] rfl
      exact hI1 _ he H locs ls hP hD hS hl
set_option maxHeartbeats 4000000 in
set_option maxRecDepth 100000 in
theorem kX2_wayHere (l : Launch) (D : va_G) (cI : ClassId) (a0 a1 a2 a3 a4 : Nat) (TB : (Nat → Int32)) (LN : Int32) (PS : Int32) (TC : (Nat → Int32)) (TW : (Nat → Int32)) (TG : (Nat → Int32)) (CM : Int32) (o : Int32) (hf : fX2_wayHere TB LN PS = some o) : Ct l yX2_wayHere wsX2_wayHere { frames := 1, cells := 0, slots := 0, locals := 20 } D cI [.ref a0] (wX2 cI a0 a1 a2 a3 a4 TB LN PS TC TW TG CM) (wX2 cI a0 a1 a2 a3 a4 TB LN PS TC TW TG CM) (some (.int o)) := by
  refine Ct.of (cc := cX2_wayHere) (maxL := 1) (ret := (some .int)) (by decide) rfl (Nat.le_of_ble_eq_true rfl) ?_
  intro p e s m args below meth c A F hP hD hS ls hl
  obtain ⟨hx, hb, hml, hr, hown, hts, hlk, hK, hA⟩ := F
  have hown : s.vm.findClass RX2 = some m.cls := hown
  have hl : lv_has ls 1 [(0, .ref a0)] := hl
  unfold fX2_wayHere at hf
  refine lv_aload_n hx hb dX2_wayHere_0 rfl (lv_at hl 0 rfl) ?_
  obtain ⟨v1, h2, hf⟩ := kBind hf
  refine kgoR (krunV (wc := (wX2 cI a0 a1 a2 a3 a4 TB LN PS TC TW TG CM)) (As := []) (rest := []) (ci := 2) hx hb hml hown hts hK (kX2_byteHere l D cI a0 a1 a2 a3 a4 TB LN PS TC TW TG CM v1 h2) gX2_wayHere_X2_byteHere rfl rfl rfl hdX2_byteHere ⟨Nat.le_of_ble_eq_true rfl, Nat.le_of_ble_eq_true rfl⟩ hP hD rfl rfl rfl rfl hl.1 rfl (Nat.le_of_ble_eq_true rfl) dX2_wayHere_1 ⟨Nat.zero_le _, Nat.zero_le _⟩) hP hD hS hA [0, 1, 2, 3, 4] rfl (fun H locs hP hS => ?_)
  by_cases c3 : v1 = (60 : Int32)
  · have hf := kIfT c3 hf
    refine lv_lookup (off := 38) (tgt := 42) hx hb dX2_wayHere_4 (by decide) (by rw [c3]; decide) (by decide) ?_
    refine lv_iconst (v := (-1 : Int32)) hx hb dX2_wayHere_42 (by decide) ?_
    have he := Option.some.inj hf
    subst he
    exact kreti hx hb hr hlk hP hD hS dX2_wayHere_43
  have hf := kIfF c3 hf
  by_cases c4 : v1 = (62 : Int32)
  · have hf := kIfT c4 hf
    refine lv_lookup (off := 36) (tgt := 40) hx hb dX2_wayHere_4 (by decide) (by rw [c4]; decide) (by decide) ?_
    refine lv_iconst (v := (1 : Int32)) hx hb dX2_wayHere_40 (by decide) ?_
    have he := Option.some.inj hf
    subst he
    exact kreti hx hb hr hlk hP hD hS dX2_wayHere_41
  have hf := kIfF c4 hf
  by_cases c5 : v1 = (126 : Int32)
  · have hf := kIfT c5 hf
    refine lv_lookup (off := 40) (tgt := 44) hx hb dX2_wayHere_4 (by decide) (by rw [c5]; decide) (by decide) ?_
    refine lv_iconst (v := (0 : Int32)) hx hb dX2_wayHere_44 (by decide) ?_
    have he := Option.some.inj hf
    subst he
    exact kreti hx hb hr hlk hP hD hS dX2_wayHere_45
  have hf := kIfF c5 hf
  refine lv_lookup (off := 42) (tgt := 46) hx hb dX2_wayHere_4 (by decide) (k_look3 c3 c4 c5) (by decide) ?_
  refine lv_iconst (v := (2 : Int32)) hx hb dX2_wayHere_46 (by decide) ?_
  have he := Option.some.inj hf
  subst he
  exact kreti hx hb hr hlk hP hD hS dX2_wayHere_47
set_option maxHeartbeats 4000000 in
set_option maxRecDepth 100000 in
theorem kX3_isAngle (l : Launch) (D : va_G) (cI : ClassId) (x0 : Int32) (o : Bool) (hf : fX3_isAngle x0 = some o) : Ct l yX3_isAngle wsX3_isAngle { frames := 0, cells := 0, slots := 0, locals := 0 } D cI [.int x0] ([] : va_W) ([] : va_W) (some (.int (bI o))) := by
  refine Ct.of (cc := cX3_isAngle) (maxL := 1) (ret := (some .boolean)) (by decide) rfl (Nat.le_of_ble_eq_true rfl) ?_
  intro p e s m args below meth c A F hP hD hS ls hl
  obtain ⟨hx, hb, hml, hr, hown, hts, hlk, hK, hA⟩ := F
  have hown : s.vm.findClass RX3 = some m.cls := hown
  have hl : lv_has ls 1 [(0, .int x0)] := hl
  unfold fX3_isAngle at hf
  refine lv_iload_n hx hb dX3_isAngle_0 rfl (lv_at hl 0 rfl) ?_
  refine lv_if_lt (tgt := 14) hx hb dX3_isAngle_1 (by decide) (fun c1 => ?_) (fun c1 => ?_)
  · have hf := kIfT c1 hf
    refine lv_iconst (v := (0 : Int32)) hx hb dX3_isAngle_14 (by decide) ?_
    have he := Option.some.inj hf
    subst he
    exact kretz hx hb hr hlk hP hD hS dX3_isAngle_15
  · have hf := kIfF c1 hf
    refine lv_iload_n hx hb dX3_isAngle_4 rfl (lv_at hl 0 rfl) ?_
    refine lv_bipush (v := (36 : Int32)) hx hb dX3_isAngle_5 (by decide) ?_
    refine lv_icmp_ge (tgt := 14) hx hb dX3_isAngle_7 (by decide) (fun c2 => ?_) (fun c2 => ?_)
    · have hf := kIfT c2 hf
      refine lv_iconst (v := (0 : Int32)) hx hb dX3_isAngle_14 (by decide) ?_
      have he := Option.some.inj hf
      subst he
      exact kretz hx hb hr hlk hP hD hS dX3_isAngle_15
    · have hf := kIfF c2 hf
      refine lv_iconst (v := (1 : Int32)) hx hb dX3_isAngle_10 (by decide) ?_
      refine lv_goto (tgt := 15) hx hb dX3_isAngle_11 (by decide) ?_
      have he := Option.some.inj hf
      subst he
      exact kretz hx hb hr hlk hP hD hS dX3_isAngle_15
set_option maxHeartbeats 4000000 in
set_option maxRecDepth 100000 in
theorem kX2_readAngle (l : Launch) (D : va_G) (cI : ClassId) (fu : Nat) (a0 a1 a2 a3 a4 : Nat) (TB : (Nat → Int32)) (LN : Int32) (PS : Int32) (TC : (Nat → Int32)) (TW : (Nat → Int32)) (TG : (Nat → Int32)) (CM : Int32) (o : Int32 × Int32) (hf : fX2_readAngle fu TB LN PS = some o) : Ct l yX2_readAngle wsX2_readAngle { frames := 1, cells := 0, slots := 0, locals := 20 } D cI [.ref a0] (wX2 cI a0 a1 a2 a3 a4 TB LN PS TC TW TG CM) (wX2 cI a0 a1 a2 a3 a4 TB LN o.2 TC TW TG CM) (some (.int o.1)) := by
  refine Ct.of (cc := cX2_readAngle) (maxL := 3) (ret := (some .int)) (by decide) rfl (Nat.le_of_ble_eq_true rfl) ?_
  intro p e s m args below meth c A F hP hD hS ls hl
  obtain ⟨hx, hb, hml, hr, hown, hts, hlk, hK, hA⟩ := F
  have hown : s.vm.findClass RX2 = some m.cls := hown
  have hl : lv_has ls 3 [(0, .ref a0)] := hl
  have hinX2 : ∀ w ∈ wsX20, w ∈ wsX2_readAngle := by decide +kernel
  have hfl11 := hts (.fieldLink RX2 11 "CraneGuard$Text" "bytes" "[I") (by decide +kernel)
  have hfl15 := hts (.fieldLink RX2 15 "CraneGuard$Text" "length" "I") (by decide +kernel)
  have hfl19 := hts (.fieldLink RX2 19 "CraneGuard$Text" "position" "I") (by decide +kernel)
  unfold fX2_readAngle at hf
  refine lv_iconst (v := (0 : Int32)) hx hb dX2_readAngle_0 (by decide) ?_
  refine lv_istore_n (lv' := [(1, .int (0 : Int32)), (0, .ref a0)]) hx hb dX2_readAngle_1 rfl hl (by decide) rfl (fun ls hl => ?_)
  refine lv_iconst (v := (0 : Int32)) hx hb dX2_readAngle_2 (by decide) ?_
  refine lv_istore_n (lv' := [(2, .int (0 : Int32)), (1, .int (0 : Int32)), (0, .ref a0)]) hx hb dX2_readAngle_3 rfl hl (by decide) rfl (fun ls hl => ?_)
  have hl : lv_has ls 3 [(2, .int (0 : Int32)), (1, .int (0 : Int32)), (0, .ref a0)] := hl
  refine klp hf (fun t4 : Int32 × Int32 × Int32 => (wX2 cI a0 a1 a2 a3 a4 TB LN t4.1 TC TW TG CM)) 3 (fun t4 : Int32 × Int32 × Int32 => [(2, .int t4.2.2), (1, .int t4.2.1), (0, .ref a0)]) ?_ hP hD hS hl
  intro t4 x4_ hf hI1 hO1 H locs ls hP hD hS hl
  unfold fX2_readAngle_L4 at hf
  have hP : va_P D vwCl (wX2 cI a0 a1 a2 a3 a4 TB LN t4.1 TC TW TG CM) H := hP
  have hD : va_D A (wX2 cI a0 a1 a2 a3 a4 TB LN t4.1 TC TW TG CM) := hD
  have hl : lv_has ls 3 [(2, .int t4.2.2), (1, .int t4.2.1), (0, .ref a0)] := hl
  refine lv_aload_n hx hb dX2_readAngle_4 rfl (lv_at hl 2 rfl) ?_
  refine va_get (D := D) (ci := 2) (v := .int t4.1) (C := RX2) (T := TX2) (N := 7) hx hb hts hinX2 hown hK.1 hP 0 rfl rfl 2 (by decide) hfl19 (fun _ h9 => h9) rfl dX2_readAngle_5 ?_
  refine lv_aload_n hx hb dX2_readAngle_8 rfl (lv_at hl 2 rfl) ?_
  refine va_get (D := D) (ci := 2) (v := .int LN) (C := RX2) (T := TX2) (N := 7) hx hb hts hinX2 hown hK.1 hP 0 rfl rfl 1 (by decide) hfl15 (fun _ h9 => h9) rfl dX2_readAngle_9 ?_
  refine lv_icmp_ge (tgt := 86) hx hb dX2_readAngle_12 (by decide) (fun c31 => ?_) (fun c31 => ?_)
  · have hf := kIfT c31 hf
    refine lv_iload_n hx hb dX2_readAngle_86 rfl (lv_at hl 0 rfl) ?_
    refine lv_iconst (v := (1 : Int32)) hx hb dX2_readAngle_87 (by decide) ?_
    refine lv_icmp_lt (tgt := 107) hx hb dX2_readAngle_88 (by decide) (fun c32 => ?_) (fun c32 => ?_)
    · have hf := kIfT c32 hf
      refine lv_iconst (v := (-1 : Int32)) hx hb dX2_readAngle_107 (by decide) ?_
      have he := Option.some.inj hf
      have he := hO1 _ he.symm
      subst he
      exact kreti hx hb hr hlk hP hD hS dX2_readAngle_108
    · have hf := kIfF c32 hf
      refine lv_iload_n hx hb dX2_readAngle_91 rfl (lv_at hl 0 rfl) ?_
      refine lv_iconst (v := (2 : Int32)) hx hb dX2_readAngle_92 (by decide) ?_
      refine lv_icmp_gt (tgt := 107) hx hb dX2_readAngle_93 (by decide) (fun c33 => ?_) (fun c33 => ?_)
      · have hf := kIfT c33 hf
        refine lv_iconst (v := (-1 : Int32)) hx hb dX2_readAngle_107 (by decide) ?_
        have he := Option.some.inj hf
        have he := hO1 _ he.symm
        subst he
        exact kreti hx hb hr hlk hP hD hS dX2_readAngle_108
      · have hf := kIfF c33 hf
        refine lv_iload_n hx hb dX2_readAngle_96 rfl (lv_at hl 1 rfl) ?_
        obtain ⟨v34, h35, hf⟩ := kBind hf
        refine kgoR (krunSN (wc := ([] : va_W)) (As := [.int t4.2.1]) (rest := []) hx hb hml hown hts hK (kX3_isAngle l D cI t4.2.1 v34 h35) ggX2_readAngle_X3_isAngle hK.2.2.2.1 (hts (.initialized RX3) (by decide +kernel)) (hts (.static yX3_isAngle) (by decide +kernel)) rfl rfl rfl hdX3_isAngle ⟨Nat.le_of_ble_eq_true rfl, Nat.le_of_ble_eq_true rfl⟩ k_P0 (k_D0 A) rfl hl.1 rfl (Nat.le_of_ble_eq_true rfl) dX2_readAngle_97 ⟨Nat.zero_le _, Nat.zero_le _⟩) hP hD hS hA [] rfl (fun H locs hP hS => ?_)
        refine kif_eqb (tgt := 107) hx hb dX2_readAngle_100 (by decide) (fun c36 => ?_) (fun c36 => ?_)
        · have hf := kIfF c36 hf
          refine lv_iconst (v := (-1 : Int32)) hx hb dX2_readAngle_107 (by decide) ?_
          have he := Option.some.inj hf
          have he := hO1 _ he.symm
          subst he
          exact kreti hx hb hr hlk hP hD hS dX2_readAngle_108
        · have hf := kIfT c36 hf
          refine lv_iload_n hx hb dX2_readAngle_103 rfl (lv_at hl 1 rfl) ?_
          refine lv_goto (tgt := 108) hx hb dX2_readAngle_104 (by decide) ?_
          have he := Option.some.inj hf
          have he := hO1 _ he.symm
          subst he
          exact kreti hx hb hr hlk hP hD hS dX2_readAngle_108
  · have hf := kIfF c31 hf
    refine lv_aload_n hx hb dX2_readAngle_15 rfl (lv_at hl 2 rfl) ?_
    refine va_get (D := D) (ci := 2) (v := .ref a1) (C := RX2) (T := TX2) (N := 7) hx hb hts hinX2 hown hK.1 hP 0 rfl rfl 0 (by decide) hfl11 (fun _ h9 => h9) rfl dX2_readAngle_16 ?_
    refine lv_aload_n hx hb dX2_readAngle_19 rfl (lv_at hl 2 rfl) ?_
    refine va_get (D := D) (ci := 2) (v := .int t4.1) (C := RX2) (T := TX2) (N := 7) hx hb hts hinX2 hown hK.1 hP 0 rfl rfl 2 (by decide) hfl19 (fun _ h9 => h9) rfl dX2_readAngle_20 ?_
    obtain ⟨v37, h38, hf⟩ := kBind hf
    refine krd hx hb hK hP 1 rfl h38 dX2_readAngle_23 ?_
    refine lv_bipush (v := (48 : Int32)) hx hb dX2_readAngle_24 (by decide) ?_
    refine lv_icmp_lt (tgt := 86) hx hb dX2_readAngle_26 (by decide) (fun c39 => ?_) (fun c39 => ?_)
    · have hf := kIfT c39 hf
      refine lv_iload_n hx hb dX2_readAngle_86 rfl (lv_at hl 0 rfl) ?_
      refine lv_iconst (v := (1 : Int32)) hx hb dX2_readAngle_87 (by decide) ?_
      refine lv_icmp_lt (tgt := 107) hx hb dX2_readAngle_88 (by decide) (fun c40 => ?_) (fun c40 => ?_)
      · have hf := kIfT c40 hf
        refine lv_iconst (v := (-1 : Int32)) hx hb dX2_readAngle_107 (by decide) ?_
        have he := Option.some.inj hf
        have he := hO1 _ he.symm
        subst he
        exact kreti hx hb hr hlk hP hD hS dX2_readAngle_108
      · have hf := kIfF c40 hf
        refine lv_iload_n hx hb dX2_readAngle_91 rfl (lv_at hl 0 rfl) ?_
        refine lv_iconst (v := (2 : Int32)) hx hb dX2_readAngle_92 (by decide) ?_
        refine lv_icmp_gt (tgt := 107) hx hb dX2_readAngle_93 (by decide) (fun c41 => ?_) (fun c41 => ?_)
        · have hf := kIfT c41 hf
          refine lv_iconst (v := (-1 : Int32)) hx hb dX2_readAngle_107 (by decide) ?_
          have he := Option.some.inj hf
          have he := hO1 _ he.symm
          subst he
          exact kreti hx hb hr hlk hP hD hS dX2_readAngle_108
        · have hf := kIfF c41 hf
          refine lv_iload_n hx hb dX2_readAngle_96 rfl (lv_at hl 1 rfl) ?_
          obtain ⟨v42, h43, hf⟩ := kBind hf
          refine kgoR (krunSN (wc := ([] : va_W)) (As := [.int t4.2.1]) (rest := []) hx hb hml hown hts hK (kX3_isAngle l D cI t4.2.1 v42 h43) ggX2_readAngle_X3_isAngle hK.2.2.2.1 (hts (.initialized RX3) (by decide +kernel)) (hts (.static yX3_isAngle) (by decide +kernel)) rfl rfl rfl hdX3_isAngle ⟨Nat.le_of_ble_eq_true rfl, Nat.le_of_ble_eq_true rfl⟩ k_P0 (k_D0 A) rfl hl.1 rfl (Nat.le_of_ble_eq_true rfl) dX2_readAngle_97 ⟨Nat.zero_le _, Nat.zero_le _⟩) hP hD hS hA [] rfl (fun H locs hP hS => ?_)
          refine kif_eqb (tgt := 107) hx hb dX2_readAngle_100 (by decide) (fun c44 => ?_) (fun c44 => ?_)
          · have hf := kIfF c44 hf
            refine lv_iconst (v := (-1 : Int32)) hx hb dX2_readAngle_107 (by decide) ?_
            have he := Option.some.inj hf
            have he := hO1 _ he.symm
            subst he
            exact kreti hx hb hr hlk hP hD hS dX2_readAngle_108
          · have hf := kIfT c44 hf
            refine lv_iload_n hx hb dX2_readAngle_103 rfl (lv_at hl 1 rfl) ?_
            refine lv_goto (tgt := 108) hx hb dX2_readAngle_104 (by decide) ?_
            have he := Option.some.inj hf
            have he := hO1 _ he.symm
            subst he
            exact kreti hx hb hr hlk hP hD hS dX2_readAngle_108
    · have hf := kIfF c39 hf
      refine lv_aload_n hx hb dX2_readAngle_29 rfl (lv_at hl 2 rfl) ?_
      refine va_get (D := D) (ci := 2) (v := .ref a1) (C := RX2) (T := TX2) (N := 7) hx hb hts hinX2 hown hK.1 hP 0 rfl rfl 0 (by decide) hfl11 (fun _ h9 => h9) rfl dX2_readAngle_30 ?_
      refine lv_aload_n hx hb dX2_readAngle_33 rfl (lv_at hl 2 rfl) ?_
      refine va_get (D := D) (ci := 2) (v := .int t4.1) (C := RX2) (T := TX2) (N := 7) hx hb hts hinX2 hown hK.1 hP 0 rfl rfl 2 (by decide) hfl19 (fun _ h9 => h9) rfl dX2_readAngle_34 ?_
      obtain ⟨v45, h46, hf⟩ := kBind hf
      refine krd hx hb hK hP 1 rfl h46 dX2_readAngle_37 ?_
      refine lv_bipush (v := (57 : Int32)) hx hb dX2_readAngle_38 (by decide) ?_
      refine lv_icmp_gt (tgt := 86) hx hb dX2_readAngle_40 (by decide) (fun c47 => ?_) (fun c47 => ?_)
      · have hf := kIfT c47 hf
        refine lv_iload_n hx hb dX2_readAngle_86 rfl (lv_at hl 0 rfl) ?_
        refine lv_iconst (v := (1 : Int32)) hx hb dX2_readAngle_87 (by decide) ?_
        refine lv_icmp_lt (tgt := 107) hx hb dX2_readAngle_88 (by decide) (fun c48 => ?_) (fun c48 => ?_)
        · have hf := kIfT c48 hf
          refine lv_iconst (v := (-1 : Int32)) hx hb dX2_readAngle_107 (by decide) ?_
          have he := Option.some.inj hf
          have he := hO1 _ he.symm
          subst he
          exact kreti hx hb hr hlk hP hD hS dX2_readAngle_108
        · have hf := kIfF c48 hf
          refine lv_iload_n hx hb dX2_readAngle_91 rfl (lv_at hl 0 rfl) ?_
          refine lv_iconst (v := (2 : Int32)) hx hb dX2_readAngle_92 (by decide) ?_
          refine lv_icmp_gt (tgt := 107) hx hb dX2_readAngle_93 (by decide) (fun c49 => ?_) (fun c49 => ?_)
          · have hf := kIfT c49 hf
            refine lv_iconst (v := (-1 : Int32)) hx hb dX2_readAngle_107 (by decide) ?_
            have he := Option.some.inj hf
            have he := hO1 _ he.symm
            subst he
            exact kreti hx hb hr hlk hP hD hS dX2_readAngle_108
          · have hf := kIfF c49 hf
            refine lv_iload_n hx hb dX2_readAngle_96 rfl (lv_at hl 1 rfl) ?_
            obtain ⟨v50, h51, hf⟩ := kBind hf
            refine kgoR (krunSN (wc := ([] : va_W)) (As := [.int t4.2.1]) (rest := []) hx hb hml hown hts hK (kX3_isAngle l D cI t4.2.1 v50 h51) ggX2_readAngle_X3_isAngle hK.2.2.2.1 (hts (.initialized RX3) (by decide +kernel)) (hts (.static yX3_isAngle) (by decide +kernel)) rfl rfl rfl hdX3_isAngle ⟨Nat.le_of_ble_eq_true rfl, Nat.le_of_ble_eq_true rfl⟩ k_P0 (k_D0 A) rfl hl.1 rfl (Nat.le_of_ble_eq_true rfl) dX2_readAngle_97 ⟨Nat.zero_le _, Nat.zero_le _⟩) hP hD hS hA [] rfl (fun H locs hP hS => ?_)
            refine kif_eqb (tgt := 107) hx hb dX2_readAngle_100 (by decide) (fun c52 => ?_) (fun c52 => ?_)
            · have hf := kIfF c52 hf
              refine lv_iconst (v := (-1 : Int32)) hx hb dX2_readAngle_107 (by decide) ?_
              have he := Option.some.inj hf
              have he := hO1 _ he.symm
              subst he
              exact kreti hx hb hr hlk hP hD hS dX2_readAngle_108
            · have hf := kIfT c52 hf
              refine lv_iload_n hx hb dX2_readAngle_103 rfl (lv_at hl 1 rfl) ?_
              refine lv_goto (tgt := 108) hx hb dX2_readAngle_104 (by decide) ?_
              have he := Option.some.inj hf
              have he := hO1 _ he.symm
              subst he
              exact kreti hx hb hr hlk hP hD hS dX2_readAngle_108
      · have hf := kIfF c47 hf
        refine lv_iload_n hx hb dX2_readAngle_43 rfl (lv_at hl 0 rfl) ?_
        refine lv_iconst (v := (2 : Int32)) hx hb dX2_readAngle_44 (by decide) ?_
        refine lv_icmp_ge (tgt := 68) hx hb dX2_readAngle_45 (by decide) (fun c53 => ?_) (fun c53 => ?_)
        · have hf := kIfT c53 hf
          refine lv_iload_n hx hb dX2_readAngle_68 rfl (lv_at hl 1 rfl) ?_
          refine lv_istore_n (lv' := [(1, .int t4.2.1), (2, .int t4.2.2), (0, .ref a0)]) hx hb dX2_readAngle_69 rfl hl (by decide) rfl (fun ls hl => ?_)
          refine lv_iinc (v := t4.2.2 + (1 : Int32)) (lv' := [(2, .int (t4.2.2 + (1 : Int32))), (1, .int t4.2.1), (0, .ref a0)]) hx hb dX2_readAngle_70 hl (k := 1) rfl rfl (by decide) rfl (fun ls hl => ?_)
          refine lv_aload_n hx hb dX2_readAngle_73 rfl (lv_at hl 2 rfl) ?_
          refine lv_dup hx hb dX2_readAngle_74 rfl ?_
          refine va_get (D := D) (ci := 2) (v := .int t4.1) (C := RX2) (T := TX2) (N := 7) hx hb hts hinX2 hown hK.1 hP 0 rfl rfl 2 (by decide) hfl19 (fun _ h9 => h9) rfl dX2_readAngle_75 ?_
          refine lv_iconst (v := (1 : Int32)) hx hb dX2_readAngle_78 (by decide) ?_
          refine lv_iadd hx hb dX2_readAngle_79 ?_
          refine va_put (D := D) (ci := 2) (v := .int (t4.1 + (1 : Int32))) (ty := .int) (C := RX2) (T := TX2) (N := 7) hx hb hts hinX2 tyX2 tyX2_ok nmX2 hown hK.1 hP hD hS 0 rfl rfl 2 (by decide) hfl19 (fun _ h9 => h9) rfl (by decide +kernel) rfl rfl (Nat.le_of_ble_eq_true rfl) dX2_readAngle_80 (fun H locs hP hD hS => ?_)
          have hP : va_P D vwCl (wX2 cI a0 a1 a2 a3 a4 TB LN (t4.1 + (1 : Int32)) TC TW TG CM) H := hP
          have hD : va_D A (wX2 cI a0 a1 a2 a3 a4 TB LN (t4.1 + (1 : Int32)) TC TW TG CM) := hD
          refine lv_goto (tgt := 4) hx hb dX2_readAngle_83 (by decide) ?_
          obtain ⟨z54, hz54⟩ : ∃ z : Int32, z = t4.2.2 + (1 : Int32) := ⟨_, rfl⟩
          rw [← hz54] at hf
          obtain ⟨z55, hz55⟩ : ∃ z : Int32, z = t4.1 + (1 : Int32) := ⟨_, rfl⟩
          rw [← hz55] at hf
          have hP : va_P D vwCl (wX2 cI a0 a1 a2 a3 a4 TB LN z55 TC TW TG CM) H := by rw [hz55]; exact hP
          have hD : va_D A (wX2 cI a0 a1 a2 a3 a4 TB LN z55 TC TW TG CM) := by rw [hz55]; exact hD
          have he := (Option.some.inj hf).symm
          have hl : lv_has ls 3 [(2, .int z54), (1, .int t4.2.1), (0, .ref a0)] := by rw [hz54]; exact lv_sub hl [0, 1, 2] rfl
          exact hI1 _ he H locs ls hP hD hS hl
        · have hf := kIfF c53 hf
          refine lv_bipush (v := (10 : Int32)) hx hb dX2_readAngle_48 (by decide) ?_
          refine lv_iload_n hx hb dX2_readAngle_50 rfl (lv_at hl 1 rfl) ?_
          refine lv_imul hx hb dX2_readAngle_51 ?_
          refine lv_aload_n hx hb dX2_readAngle_52 rfl (lv_at hl 2 rfl) ?_
          refine va_get (D := D) (ci := 2) (v := .ref a1) (C := RX2) (T := TX2) (N := 7) hx hb hts hinX2 hown hK.1 hP 0 rfl rfl 0 (by decide) hfl11 (fun _ h9 => h9) rfl dX2_readAngle_53 ?_
          refine lv_aload_n hx hb dX2_readAngle_56 rfl (lv_at hl 2 rfl) ?_
          refine va_get (D := D) (ci := 2) (v := .int t4.1) (C := RX2) (T := TX2) (N := 7) hx hb hts hinX2 hown hK.1 hP 0 rfl rfl 2 (by decide) hfl19 (fun _ h9 => h9) rfl dX2_readAngle_57 ?_
          obtain ⟨v56, h57, hf⟩ := kBind hf
          refine krd hx hb hK hP 1 rfl h57 dX2_readAngle_60 ?_
          refine lv_iadd hx hb dX2_readAngle_61 ?_
          refine lv_bipush (v := (48 : Int32)) hx hb dX2_readAngle_62 (by decide) ?_
          refine lv_isub hx hb dX2_readAngle_64 ?_
          refine lv_goto (tgt := 69) hx hb dX2_readAngle_65 (by decide) ?_
          refine lv_istore_n (lv' := [(1, .int ((((10 : Int32) * t4.2.1) + v56) - (48 : Int32))), (2, .int t4.2.2), (0, .ref a0)]) hx hb dX2_readAngle_69 rfl hl (by decide) rfl (fun ls hl => ?_)
          refine lv_iinc (v := t4.2.2 + (1 : Int32)) (lv' := [(2, .int (t4.2.2 + (1 : Int32))), (1, .int ((((10 : Int32) * t4.2.1) + v56) - (48 : Int32))), (0, .ref a0)]) hx hb dX2_readAngle_70 hl (k := 1) rfl rfl (by decide) rfl (fun ls hl => ?_)
          refine lv_aload_n hx hb dX2_readAngle_73 rfl (lv_at hl 2 rfl) ?_
          refine lv_dup hx hb dX2_readAngle_74 rfl ?_
          refine va_get (D := D) (ci := 2) (v := .int t4.1) (C := RX2) (T := TX2) (N := 7) hx hb hts hinX2 hown hK.1 hP 0 rfl rfl 2 (by decide) hfl19 (fun _ h9 => h9) rfl dX2_readAngle_75 ?_
          refine lv_iconst (v := (1 : Int32)) hx hb dX2_readAngle_78 (by decide) ?_
          refine lv_iadd hx hb dX2_readAngle_79 ?_
          refine va_put (D := D) (ci := 2) (v := .int (t4.1 + (1 : Int32))) (ty := .int) (C := RX2) (T := TX2) (N := 7) hx hb hts hinX2 tyX2 tyX2_ok nmX2 hown hK.1 hP hD hS 0 rfl rfl 2 (by decide) hfl19 (fun _ h9 => h9) rfl (by decide +kernel) rfl rfl (Nat.le_of_ble_eq_true rfl) dX2_readAngle_80 (fun H locs hP hD hS => ?_)
          have hP : va_P D vwCl (wX2 cI a0 a1 a2 a3 a4 TB LN (t4.1 + (1 : Int32)) TC TW TG CM) H := hP
          have hD : va_D A (wX2 cI a0 a1 a2 a3 a4 TB LN (t4.1 + (1 : Int32)) TC TW TG CM) := hD
          refine lv_goto (tgt := 4) hx hb dX2_readAngle_83 (by decide) ?_
          obtain ⟨z58, hz58⟩ : ∃ z : Int32, z = (((10 : Int32) * t4.2.1) + v56) - (48 : Int32) := ⟨_, rfl⟩
          rw [← hz58] at hf
          obtain ⟨z59, hz59⟩ : ∃ z : Int32, z = t4.2.2 + (1 : Int32) := ⟨_, rfl⟩
          rw [← hz59] at hf
          obtain ⟨z60, hz60⟩ : ∃ z : Int32, z = t4.1 + (1 : Int32) := ⟨_, rfl⟩
          rw [← hz60] at hf
          have hP : va_P D vwCl (wX2 cI a0 a1 a2 a3 a4 TB LN z60 TC TW TG CM) H := by rw [hz60]; exact hP
          have hD : va_D A (wX2 cI a0 a1 a2 a3 a4 TB LN z60 TC TW TG CM) := by rw [hz60]; exact hD
          have he := (Option.some.inj hf).symm
          have hl : lv_has ls 3 [(2, .int z59), (1, .int z58), (0, .ref a0)] := by rw [hz58, hz59]; exact lv_sub hl [0, 1, 2] rfl
          exact hI1 _ he H locs ls hP hD hS hl
set_option maxHeartbeats 4000000 in
set_option maxRecDepth 100000 in
theorem kX2_readCommand (l : Launch) (D : va_G) (cI : ClassId) (fu : Nat) (a0 a1 a2 a3 a4 a5 a6 : Nat) (TB : (Nat → Int32)) (LN : Int32) (PS : Int32) (TC : (Nat → Int32)) (TW : (Nat → Int32)) (TG : (Nat → Int32)) (CM : Int32) (R : (Nat → Int32)) (x1 : Int32) (o : Int32 × Int32 × (Nat → Int32) × (Nat → Int32) × (Nat → Int32)) (hf : fX2_readCommand fu TB LN PS TC TW TG R x1 = some o) : Ct l yX2_readCommand wsX2_readCommand { frames := 2, cells := 0, slots := 0, locals := 42 } D cI [.ref a0, .int x1, .ref a5] (wX2_X1 cI a0 a1 a2 a3 a4 a5 a6 TB LN PS TC TW TG CM R) (wX2_X1 cI a0 a1 a2 a3 a4 a5 a6 TB LN o.2.1 o.2.2.1 o.2.2.2.1 o.2.2.2.2 CM R) (some (.int o.1)) := by
  refine Ct.of (cc := cX2_readCommand) (maxL := 7) (ret := (some .int)) (by decide) rfl (Nat.le_of_ble_eq_true rfl) ?_
  intro p e s m args below meth c A F hP hD hS ls hl
  obtain ⟨hx, hb, hml, hr, hown, hts, hlk, hK, hA⟩ := F
  have hown : s.vm.findClass RX2 = some m.cls := hown
  have hl : lv_has ls 7 [(0, .ref a0), (1, .int x1), (2, .ref a5)] := hl
  have hinX2 : ∀ w ∈ wsX20, w ∈ wsX2_readCommand := by decide +kernel
  have hfl19 := hts (.fieldLink RX2 19 "CraneGuard$Text" "position" "I") (by decide +kernel)
  have hfl22 := hts (.fieldLink RX2 22 "CraneGuard$Text" "craneOf" "[I") (by decide +kernel)
  have hfl25 := hts (.fieldLink RX2 25 "CraneGuard$Text" "wayOf" "[I") (by decide +kernel)
  have hfl28 := hts (.fieldLink RX2 28 "CraneGuard$Text" "targetOf" "[I") (by decide +kernel)
  unfold fX2_readCommand at hf
  refine lv_aload_n hx hb dX2_readCommand_0 rfl (lv_at hl 0 rfl) ?_
  obtain ⟨v1, h2, hf⟩ := kBind hf
  refine kgoJ (wr := [(a5, .inr (1, [.ref a6])), (a6, .inl (cI, 132, .inl R))]) (w2 := (wX2_X1 cI a0 a1 a2 a3 a4 a5 a6 TB LN v1 TC TW TG CM R)) (krunV (wc := (wX2 cI a0 a1 a2 a3 a4 TB LN PS TC TW TG CM)) (As := []) (rest := []) (ci := 2) hx hb hml hown hts hK (kX2_skipBlanks l D cI fu a0 a1 a2 a3 a4 TB LN PS TC TW TG CM v1 h2) gX2_readCommand_X2_skipBlanks rfl rfl rfl hdX2_skipBlanks ⟨Nat.le_of_ble_eq_true rfl, Nat.le_of_ble_eq_true rfl⟩ (hP.sub [0, 1, 2, 3, 4] rfl) (hD.sub [0, 1, 2, 3, 4] (by decide) rfl) rfl rfl rfl rfl hl.1 rfl (Nat.le_of_ble_eq_true rfl) dX2_readCommand_1 ⟨Nat.zero_le _, Nat.zero_le _⟩) hP hD hS hA [0, 1, 2, 3, 4] [5, 6] [2, 3, 4, 5, 6, 0, 1] rfl rfl (by decide) (by decide) (by decide) rfl (fun H locs hP hD hS => ?_)
  refine lv_aload_n hx hb dX2_readCommand_4 rfl (lv_at hl 0 rfl) ?_
  obtain ⟨v3, h4, hf⟩ := kBind hf
  refine kgoR (krunV (wc := (wX2 cI a0 a1 a2 a3 a4 TB LN v1 TC TW TG CM)) (As := []) (rest := []) (ci := 2) hx hb hml hown hts hK (kX2_byteHere l D cI a0 a1 a2 a3 a4 TB LN v1 TC TW TG CM v3 h4) gX2_readCommand_X2_byteHere rfl rfl rfl hdX2_byteHere ⟨Nat.le_of_ble_eq_true rfl, Nat.le_of_ble_eq_true rfl⟩ (hP.sub [0, 1, 2, 3, 4] rfl) (hD.sub [0, 1, 2, 3, 4] (by decide) rfl) rfl rfl rfl rfl hl.1 rfl (Nat.le_of_ble_eq_true rfl) dX2_readCommand_5 ⟨Nat.zero_le _, Nat.zero_le _⟩) hP hD hS hA [0, 1, 2, 3, 4] rfl (fun H locs hP hS => ?_)
  refine lv_bipush (v := (48 : Int32)) hx hb dX2_readCommand_8 (by decide) ?_
  refine lv_isub hx hb dX2_readCommand_10 ?_
  refine lv_istore_n (lv' := [(3, .int (v3 - (48 : Int32))), (0, .ref a0), (1, .int x1), (2, .ref a5)]) hx hb dX2_readCommand_11 rfl hl (by decide) rfl (fun ls hl => ?_)
  refine lv_aload_n hx hb dX2_readCommand_12 rfl (lv_at hl 3 rfl) ?_
  refine lv_iload_n hx hb dX2_readCommand_13 rfl (lv_at hl 0 rfl) ?_
  obtain ⟨v5, h6, hf⟩ := kBind hf
  refine kgoR (krunV (wc := (wX1 cI a5 a6 R)) (As := [.int (v3 - (48 : Int32))]) (rest := []) (ci := 1) hx hb hml hown hts hK (kX1_hasCrane l D cI a5 a6 R (v3 - (48 : Int32)) v5 h6) gX2_readCommand_X1_hasCrane rfl rfl rfl hdX1_hasCrane ⟨Nat.le_of_ble_eq_true rfl, Nat.le_of_ble_eq_true rfl⟩ (hP.sub [5, 6] rfl) (hD.sub [5, 6] (by decide) rfl) rfl rfl rfl rfl hl.1 rfl (Nat.le_of_ble_eq_true rfl) dX2_readCommand_14 ⟨Nat.zero_le _, Nat.zero_le _⟩) hP hD hS hA [5, 6] rfl (fun H locs hP hS => ?_)
  refine kif_eqb (tgt := 28) hx hb dX2_readCommand_17 (by decide) (fun c7 => ?_) (fun c7 => ?_)
  · have hf := kIfF c7 hf
    refine lv_aload_n hx hb dX2_readCommand_28 rfl (lv_at hl 1 rfl) ?_
    refine va_get (D := D) (ci := 2) (v := .int v1) (C := RX2) (T := TX2) (N := 7) hx hb hts hinX2 hown hK.1 hP 0 rfl rfl 2 (by decide) hfl19 (fun _ h9 => h9) rfl dX2_readCommand_29 ?_
    have he := Option.some.inj hf
    subst he
    exact kreti hx hb hr hlk hP hD hS dX2_readCommand_32
  · have hf := kIfT c7 hf
    refine lv_aload_n hx hb dX2_readCommand_20 rfl (lv_at hl 3 rfl) ?_
    refine lv_iload_n hx hb dX2_readCommand_21 rfl (lv_at hl 0 rfl) ?_
    obtain ⟨v8, h9, hf⟩ := kBind hf
    refine kgoR (krunV (wc := (wX1 cI a5 a6 R)) (As := [.int (v3 - (48 : Int32))]) (rest := []) (ci := 1) hx hb hml hown hts hK (kX1_canAim l D cI a5 a6 R (v3 - (48 : Int32)) v8 h9) gX2_readCommand_X1_canAim rfl rfl rfl hdX1_canAim ⟨Nat.le_of_ble_eq_true rfl, Nat.le_of_ble_eq_true rfl⟩ (hP.sub [5, 6] rfl) (hD.sub [5, 6] (by decide) rfl) rfl rfl rfl rfl hl.1 rfl (Nat.le_of_ble_eq_true rfl) dX2_readCommand_22 ⟨Nat.zero_le _, Nat.zero_le _⟩) hP hD hS hA [5, 6] rfl (fun H locs hP hS => ?_)
    refine kif_neb (tgt := 33) hx hb dX2_readCommand_25 (by decide) (fun c10 => ?_) (fun c10 => ?_)
    · have hf := kIfT c10 hf
      refine lv_aload_n hx hb dX2_readCommand_33 rfl (lv_at hl 1 rfl) ?_
      refine lv_dup hx hb dX2_readCommand_34 rfl ?_
      refine va_get (D := D) (ci := 2) (v := .int v1) (C := RX2) (T := TX2) (N := 7) hx hb hts hinX2 hown hK.1 hP 0 rfl rfl 2 (by decide) hfl19 (fun _ h9 => h9) rfl dX2_readCommand_35 ?_
      refine lv_iconst (v := (1 : Int32)) hx hb dX2_readCommand_38 (by decide) ?_
      refine lv_iadd hx hb dX2_readCommand_39 ?_
      refine va_put (D := D) (ci := 2) (v := .int (v1 + (1 : Int32))) (ty := .int) (C := RX2) (T := TX2) (N := 7) hx hb hts hinX2 tyX2 tyX2_ok nmX2 hown hK.1 hP hD hS 0 rfl rfl 2 (by decide) hfl19 (fun _ h9 => h9) rfl (by decide +kernel) rfl rfl (Nat.le_of_ble_eq_true rfl) dX2_readCommand_40 (fun H locs hP hD hS => ?_)
      have hP : va_P D vwCl (wX2_X1 cI a0 a1 a2 a3 a4 a5 a6 TB LN (v1 + (1 : Int32)) TC TW TG CM R) H := hP
      have hD : va_D A (wX2_X1 cI a0 a1 a2 a3 a4 a5 a6 TB LN (v1 + (1 : Int32)) TC TW TG CM R) := hD
      refine lv_aload_n hx hb dX2_readCommand_43 rfl (lv_at hl 1 rfl) ?_
      obtain ⟨v11, h12, hf⟩ := kBind hf
      refine kgoJ (wr := [(a5, .inr (1, [.ref a6])), (a6, .inl (cI, 132, .inl R))]) (w2 := (wX2_X1 cI a0 a1 a2 a3 a4 a5 a6 TB LN v11 TC TW TG CM R)) (krunV (wc := (wX2 cI a0 a1 a2 a3 a4 TB LN (v1 + (1 : Int32)) TC TW TG CM)) (As := []) (rest := []) (ci := 2) hx hb hml hown hts hK (kX2_skipBlanks l D cI fu a0 a1 a2 a3 a4 TB LN (v1 + (1 : Int32)) TC TW TG CM v11 h12) gX2_readCommand_X2_skipBlanks rfl rfl rfl hdX2_skipBlanks ⟨Nat.le_of_ble_eq_true rfl, Nat.le_of_ble_eq_true rfl⟩ (hP.sub [0, 1, 2, 3, 4] rfl) (hD.sub [0, 1, 2, 3, 4] (by decide) rfl) rfl rfl rfl rfl hl.1 rfl (Nat.le_of_ble_eq_true rfl) dX2_readCommand_44 ⟨Nat.zero_le _, Nat.zero_le _⟩) hP hD hS hA [0, 1, 2, 3, 4] [5, 6] [2, 3, 4, 5, 6, 0, 1] rfl rfl (by decide) (by decide) (by decide) rfl (fun H locs hP hD hS => ?_)
      refine lv_aload_n hx hb dX2_readCommand_47 rfl (lv_at hl 1 rfl) ?_
      obtain ⟨v13, h14, hf⟩ := kBind hf
      refine kgoR (krunV (wc := (wX2 cI a0 a1 a2 a3 a4 TB LN v11 TC TW TG CM)) (As := []) (rest := []) (ci := 2) hx hb hml hown hts hK (kX2_wayHere l D cI a0 a1 a2 a3 a4 TB LN v11 TC TW TG CM v13 h14) gX2_readCommand_X2_wayHere rfl rfl rfl hdX2_wayHere ⟨Nat.le_of_ble_eq_true rfl, Nat.le_of_ble_eq_true rfl⟩ (hP.sub [0, 1, 2, 3, 4] rfl) (hD.sub [0, 1, 2, 3, 4] (by decide) rfl) rfl rfl rfl rfl hl.1 rfl (Nat.le_of_ble_eq_true rfl) dX2_readCommand_48 ⟨Nat.zero_le _, Nat.zero_le _⟩) hP hD hS hA [0, 1, 2, 3, 4] rfl (fun H locs hP hS => ?_)
      refine lv_istore (lv' := [(4, .int v13), (3, .int (v3 - (48 : Int32))), (0, .ref a0), (1, .int x1), (2, .ref a5)]) hx hb dX2_readCommand_51 hl (by decide) rfl (fun ls hl => ?_)
      refine lv_iload hx hb dX2_readCommand_53 (lv_at hl 0 rfl) ?_
      refine lv_iconst (v := (2 : Int32)) hx hb dX2_readCommand_55 (by decide) ?_
      refine lv_icmp_ne (tgt := 64) hx hb dX2_readCommand_56 (by decide) (fun c15 => ?_) (fun c15 => ?_)
      · have hf := kIfF c15 hf
        refine lv_aload_n hx hb dX2_readCommand_64 rfl (lv_at hl 2 rfl) ?_
        refine lv_dup hx hb dX2_readCommand_65 rfl ?_
        refine va_get (D := D) (ci := 2) (v := .int v11) (C := RX2) (T := TX2) (N := 7) hx hb hts hinX2 hown hK.1 hP 0 rfl rfl 2 (by decide) hfl19 (fun _ h9 => h9) rfl dX2_readCommand_66 ?_
        refine lv_iconst (v := (1 : Int32)) hx hb dX2_readCommand_69 (by decide) ?_
        refine lv_iadd hx hb dX2_readCommand_70 ?_
        refine va_put (D := D) (ci := 2) (v := .int (v11 + (1 : Int32))) (ty := .int) (C := RX2) (T := TX2) (N := 7) hx hb hts hinX2 tyX2 tyX2_ok nmX2 hown hK.1 hP hD hS 0 rfl rfl 2 (by decide) hfl19 (fun _ h9 => h9) rfl (by decide +kernel) rfl rfl (Nat.le_of_ble_eq_true rfl) dX2_readCommand_71 (fun H locs hP hD hS => ?_)
        have hP : va_P D vwCl (wX2_X1 cI a0 a1 a2 a3 a4 a5 a6 TB LN (v11 + (1 : Int32)) TC TW TG CM R) H := hP
        have hD : va_D A (wX2_X1 cI a0 a1 a2 a3 a4 a5 a6 TB LN (v11 + (1 : Int32)) TC TW TG CM R) := hD
        refine lv_aload_n hx hb dX2_readCommand_74 rfl (lv_at hl 2 rfl) ?_
        obtain ⟨v16, h17, hf⟩ := kBind hf
        refine kgoJ (wr := [(a5, .inr (1, [.ref a6])), (a6, .inl (cI, 132, .inl R))]) (w2 := (wX2_X1 cI a0 a1 a2 a3 a4 a5 a6 TB LN v16 TC TW TG CM R)) (krunV (wc := (wX2 cI a0 a1 a2 a3 a4 TB LN (v11 + (1 : Int32)) TC TW TG CM)) (As := []) (rest := []) (ci := 2) hx hb hml hown hts hK (kX2_skipBlanks l D cI fu a0 a1 a2 a3 a4 TB LN (v11 + (1 : Int32)) TC TW TG CM v16 h17) gX2_readCommand_X2_skipBlanks rfl rfl rfl hdX2_skipBlanks ⟨Nat.le_of_ble_eq_true rfl, Nat.le_of_ble_eq_true rfl⟩ (hP.sub [0, 1, 2, 3, 4] rfl) (hD.sub [0, 1, 2, 3, 4] (by decide) rfl) rfl rfl rfl rfl hl.1 rfl (Nat.le_of_ble_eq_true rfl) dX2_readCommand_75 ⟨Nat.zero_le _, Nat.zero_le _⟩) hP hD hS hA [0, 1, 2, 3, 4] [5, 6] [2, 3, 4, 5, 6, 0, 1] rfl rfl (by decide) (by decide) (by decide) rfl (fun H locs hP hD hS => ?_)
        refine lv_aload_n hx hb dX2_readCommand_78 rfl (lv_at hl 2 rfl) ?_
        refine va_get (D := D) (ci := 2) (v := .int v16) (C := RX2) (T := TX2) (N := 7) hx hb hts hinX2 hown hK.1 hP 0 rfl rfl 2 (by decide) hfl19 (fun _ h9 => h9) rfl dX2_readCommand_79 ?_
        refine lv_istore (lv' := [(5, .int v16), (4, .int v13), (3, .int (v3 - (48 : Int32))), (0, .ref a0), (1, .int x1), (2, .ref a5)]) hx hb dX2_readCommand_82 hl (by decide) rfl (fun ls hl => ?_)
        refine lv_aload_n hx hb dX2_readCommand_84 rfl (lv_at hl 3 rfl) ?_
        obtain ⟨v18, h19, hf⟩ := kBind hf
        refine kgoJ (wr := [(a5, .inr (1, [.ref a6])), (a6, .inl (cI, 132, .inl R))]) (w2 := (wX2_X1 cI a0 a1 a2 a3 a4 a5 a6 TB LN v18.2 TC TW TG CM R)) (krunV (wc := (wX2 cI a0 a1 a2 a3 a4 TB LN v16 TC TW TG CM)) (As := []) (rest := []) (ci := 2) hx hb hml hown hts hK (kX2_readAngle l D cI fu a0 a1 a2 a3 a4 TB LN v16 TC TW TG CM v18 h19) gX2_readCommand_X2_readAngle rfl rfl rfl hdX2_readAngle ⟨Nat.le_of_ble_eq_true rfl, Nat.le_of_ble_eq_true rfl⟩ (hP.sub [0, 1, 2, 3, 4] rfl) (hD.sub [0, 1, 2, 3, 4] (by decide) rfl) rfl rfl rfl rfl hl.1 rfl (Nat.le_of_ble_eq_true rfl) dX2_readCommand_85 ⟨Nat.zero_le _, Nat.zero_le _⟩) hP hD hS hA [0, 1, 2, 3, 4] [5, 6] [2, 3, 4, 5, 6, 0, 1] rfl rfl (by decide) (by decide) (by decide) rfl (fun H locs hP hD hS => ?_)
        refine lv_istore (lv' := [(6, .int v18.1), (5, .int v16), (4, .int v13), (3, .int (v3 - (48 : Int32))), (0, .ref a0), (1, .int x1), (2, .ref a5)]) hx hb dX2_readCommand_88 hl (by decide) rfl (fun ls hl => ?_)
        refine lv_iload hx hb dX2_readCommand_90 (lv_at hl 0 rfl) ?_
        refine lv_iconst (v := (-1 : Int32)) hx hb dX2_readCommand_92 (by decide) ?_
        refine lv_icmp_ne (tgt := 99) hx hb dX2_readCommand_93 (by decide) (fun c20 => ?_) (fun c20 => ?_)
        · have hf := kIfF c20 hf
          refine lv_aload_n hx hb dX2_readCommand_99 rfl (lv_at hl 4 rfl) ?_
          refine va_get (D := D) (ci := 2) (v := .ref a2) (C := RX2) (T := TX2) (N := 7) hx hb hts hinX2 hown hK.1 hP 0 rfl rfl 3 (by decide) hfl22 (fun _ h9 => h9) rfl dX2_readCommand_100 ?_
          refine lv_iload_n hx hb dX2_readCommand_103 rfl (lv_at hl 5 rfl) ?_
          refine lv_iload_n hx hb dX2_readCommand_104 rfl (lv_at hl 3 rfl) ?_
          obtain ⟨v21, h22, hf⟩ := kBind hf
          refine kwr hx hb hK hP hD hS 2 rfl h22 (wX2_X1 cI a0 a1 a2 a3 a4 a5 a6 TB LN v18.2 v21 TW TG CM R) rfl dX2_readCommand_105 (fun H locs hP hD hS => ?_)
          refine lv_aload_n hx hb dX2_readCommand_106 rfl (lv_at hl 4 rfl) ?_
          refine va_get (D := D) (ci := 2) (v := .ref a3) (C := RX2) (T := TX2) (N := 7) hx hb hts hinX2 hown hK.1 hP 0 rfl rfl 4 (by decide) hfl25 (fun _ h9 => h9) rfl dX2_readCommand_107 ?_
          refine lv_iload_n hx hb dX2_readCommand_110 rfl (lv_at hl 5 rfl) ?_
          refine lv_iload hx hb dX2_readCommand_111 (lv_at hl 2 rfl) ?_
          obtain ⟨v23, h24, hf⟩ := kBind hf
          refine kwr hx hb hK hP hD hS 3 rfl h24 (wX2_X1 cI a0 a1 a2 a3 a4 a5 a6 TB LN v18.2 v21 v23 TG CM R) rfl dX2_readCommand_113 (fun H locs hP hD hS => ?_)
          refine lv_aload_n hx hb dX2_readCommand_114 rfl (lv_at hl 4 rfl) ?_
          refine va_get (D := D) (ci := 2) (v := .ref a4) (C := RX2) (T := TX2) (N := 7) hx hb hts hinX2 hown hK.1 hP 0 rfl rfl 5 (by decide) hfl28 (fun _ h9 => h9) rfl dX2_readCommand_115 ?_
          refine lv_iload_n hx hb dX2_readCommand_118 rfl (lv_at hl 5 rfl) ?_
          refine lv_iload hx hb dX2_readCommand_119 (lv_at hl 0 rfl) ?_
          obtain ⟨v25, h26, hf⟩ := kBind hf
          refine kwr hx hb hK hP hD hS 4 rfl h26 (wX2_X1 cI a0 a1 a2 a3 a4 a5 a6 TB LN v18.2 v21 v23 v25 CM R) rfl dX2_readCommand_121 (fun H locs hP hD hS => ?_)
          refine lv_bipush (v := (-100 : Int32)) hx hb dX2_readCommand_122 (by decide) ?_
          have he := Option.some.inj hf
          subst he
          exact kreti hx hb hr hlk hP hD hS dX2_readCommand_124
        · have hf := kIfT c20 hf
          refine lv_iload hx hb dX2_readCommand_96 (lv_at hl 1 rfl) ?_
          have he := Option.some.inj hf
          subst he
          exact kreti hx hb hr hlk hP hD hS dX2_readCommand_98
      · have hf := kIfT c15 hf
        refine lv_aload_n hx hb dX2_readCommand_59 rfl (lv_at hl 2 rfl) ?_
        refine va_get (D := D) (ci := 2) (v := .int v11) (C := RX2) (T := TX2) (N := 7) hx hb hts hinX2 hown hK.1 hP 0 rfl rfl 2 (by decide) hfl19 (fun _ h9 => h9) rfl dX2_readCommand_60 ?_
        have he := Option.some.inj hf
        subst he
        exact kreti hx hb hr hlk hP hD hS dX2_readCommand_63
    · have hf := kIfF c10 hf
      refine lv_aload_n hx hb dX2_readCommand_28 rfl (lv_at hl 1 rfl) ?_
      refine va_get (D := D) (ci := 2) (v := .int v1) (C := RX2) (T := TX2) (N := 7) hx hb hts hinX2 hown hK.1 hP 0 rfl rfl 2 (by decide) hfl19 (fun _ h9 => h9) rfl dX2_readCommand_29 ?_
      have he := Option.some.inj hf
      subst he
      exact kreti hx hb hr hlk hP hD hS dX2_readCommand_32
set_option maxHeartbeats 4000000 in
set_option maxRecDepth 100000 in
theorem kX2_read (l : Launch) (D : va_G) (cI : ClassId) (fu : Nat) (a0 a1 a2 a3 a4 a5 a6 : Nat) (TB : (Nat → Int32)) (LN : Int32) (PS : Int32) (TC : (Nat → Int32)) (TW : (Nat → Int32)) (TG : (Nat → Int32)) (CM : Int32) (R : (Nat → Int32)) (o : Int32 × Int32 × (Nat → Int32) × (Nat → Int32) × (Nat → Int32) × Int32) (hf : fX2_read fu TB LN TC TW TG R = some o) : Ct l yX2_read wsX2_read { frames := 3, cells := 0, slots := 0, locals := 68 } D cI [.ref a0, .ref a5] (wX2_X1 cI a0 a1 a2 a3 a4 a5 a6 TB LN PS TC TW TG CM R) (wX2_X1 cI a0 a1 a2 a3 a4 a5 a6 TB LN o.2.1 o.2.2.1 o.2.2.2.1 o.2.2.2.2.1 o.2.2.2.2.2 R) (some (.int o.1)) := by
  refine Ct.of (cc := cX2_read) (maxL := 4) (ret := (some .int)) (by decide) rfl (Nat.le_of_ble_eq_true rfl) ?_
  intro p e s m args below meth c A F hP hD hS ls hl
  obtain ⟨hx, hb, hml, hr, hown, hts, hlk, hK, hA⟩ := F
  have hown : s.vm.findClass RX2 = some m.cls := hown
  have hl : lv_has ls 4 [(0, .ref a0), (1, .ref a5)] := hl
  have hinX2 : ∀ w ∈ wsX20, w ∈ wsX2_read := by decide +kernel
  have hfl19 := hts (.fieldLink RX2 19 "CraneGuard$Text" "position" "I") (by decide +kernel)
  have hfl31 := hts (.fieldLink RX2 31 "CraneGuard$Text" "commands" "I") (by decide +kernel)
  unfold fX2_read at hf
  refine lv_aload_n hx hb dX2_read_0 rfl (lv_at hl 0 rfl) ?_
  refine lv_iconst (v := (0 : Int32)) hx hb dX2_read_1 (by decide) ?_
  refine va_put (D := D) (ci := 2) (v := .int (0 : Int32)) (ty := .int) (C := RX2) (T := TX2) (N := 7) hx hb hts hinX2 tyX2 tyX2_ok nmX2 hown hK.1 hP hD hS 0 rfl rfl 2 (by decide) hfl19 (fun _ h9 => h9) rfl (by decide +kernel) rfl rfl (Nat.le_of_ble_eq_true rfl) dX2_read_2 (fun H locs hP hD hS => ?_)
  have hP : va_P D vwCl (wX2_X1 cI a0 a1 a2 a3 a4 a5 a6 TB LN (0 : Int32) TC TW TG CM R) H := hP
  have hD : va_D A (wX2_X1 cI a0 a1 a2 a3 a4 a5 a6 TB LN (0 : Int32) TC TW TG CM R) := hD
  refine lv_aload_n hx hb dX2_read_5 rfl (lv_at hl 0 rfl) ?_
  refine lv_iconst (v := (0 : Int32)) hx hb dX2_read_6 (by decide) ?_
  refine va_put (D := D) (ci := 2) (v := .int (0 : Int32)) (ty := .int) (C := RX2) (T := TX2) (N := 7) hx hb hts hinX2 tyX2 tyX2_ok nmX2 hown hK.1 hP hD hS 0 rfl rfl 6 (by decide) hfl31 (fun _ h9 => h9) rfl (by decide +kernel) rfl rfl (Nat.le_of_ble_eq_true rfl) dX2_read_7 (fun H locs hP hD hS => ?_)
  have hP : va_P D vwCl (wX2_X1 cI a0 a1 a2 a3 a4 a5 a6 TB LN (0 : Int32) TC TW TG (0 : Int32) R) H := hP
  have hD : va_D A (wX2_X1 cI a0 a1 a2 a3 a4 a5 a6 TB LN (0 : Int32) TC TW TG (0 : Int32) R) := hD
  refine lv_iconst (v := (0 : Int32)) hx hb dX2_read_10 (by decide) ?_
  refine lv_istore_n (lv' := [(2, .int (0 : Int32)), (0, .ref a0), (1, .ref a5)]) hx hb dX2_read_11 rfl hl (by decide) rfl (fun ls hl => ?_)
  have hl : lv_has ls 4 [(2, .int (0 : Int32)), (0, .ref a0), (1, .ref a5)] := hl
  refine klp hf (fun t12 : Int32 × (Nat → Int32) × (Nat → Int32) × (Nat → Int32) × Int32 × Int32 => (wX2_X1 cI a0 a1 a2 a3 a4 a5 a6 TB LN t12.1 t12.2.1 t12.2.2.1 t12.2.2.2.1 t12.2.2.2.2.1 R)) 4 (fun t12 : Int32 × (Nat → Int32) × (Nat → Int32) × (Nat → Int32) × Int32 × Int32 => [(2, .int t12.2.2.2.2.2), (0, .ref a0), (1, .ref a5)]) ?_ hP hD hS hl
  intro t12 x12_ hf hI1 hO1 H locs ls hP hD hS hl
  unfold fX2_read_L12 at hf
  have hP : va_P D vwCl (wX2_X1 cI a0 a1 a2 a3 a4 a5 a6 TB LN t12.1 t12.2.1 t12.2.2.1 t12.2.2.2.1 t12.2.2.2.2.1 R) H := hP
  have hD : va_D A (wX2_X1 cI a0 a1 a2 a3 a4 a5 a6 TB LN t12.1 t12.2.1 t12.2.2.1 t12.2.2.2.1 t12.2.2.2.2.1 R) := hD
  have hl : lv_has ls 4 [(2, .int t12.2.2.2.2.2), (0, .ref a0), (1, .ref a5)] := hl
  refine lv_iload_n hx hb dX2_read_12 rfl (lv_at hl 0 rfl) ?_
  refine lv_bipush (v := (20 : Int32)) hx hb dX2_read_13 (by decide) ?_
  refine lv_icmp_ge (tgt := 85) hx hb dX2_read_15 (by decide) (fun c17 => ?_) (fun c17 => ?_)
  · have hf := kIfT c17 hf
    refine lv_aload_n hx hb dX2_read_85 rfl (lv_at hl 1 rfl) ?_
    refine va_get (D := D) (ci := 2) (v := .int t12.1) (C := RX2) (T := TX2) (N := 7) hx hb hts hinX2 hown hK.1 hP 0 rfl rfl 2 (by decide) hfl19 (fun _ h9 => h9) rfl dX2_read_86 ?_
    have he := Option.some.inj hf
    have he := hO1 _ he.symm
    subst he
    exact kreti hx hb hr hlk hP hD hS dX2_read_89
  · have hf := kIfF c17 hf
    refine lv_aload_n hx hb dX2_read_18 rfl (lv_at hl 1 rfl) ?_
    refine lv_iload_n hx hb dX2_read_19 rfl (lv_at hl 0 rfl) ?_
    refine lv_aload_n hx hb dX2_read_20 rfl (lv_at hl 2 rfl) ?_
    obtain ⟨v18, h19, hf⟩ := kBind hf
    refine kgoA (krunV (wc := (wX2_X1 cI a0 a1 a2 a3 a4 a5 a6 TB LN t12.1 t12.2.1 t12.2.2.1 t12.2.2.2.1 t12.2.2.2.2.1 R)) (As := [.int t12.2.2.2.2.2, .ref a5]) (rest := []) (ci := 2) hx hb hml hown hts hK (kX2_readCommand l D cI fu a0 a1 a2 a3 a4 a5 a6 TB LN t12.1 t12.2.1 t12.2.2.1 t12.2.2.2.1 t12.2.2.2.2.1 R t12.2.2.2.2.2 v18 h19) gX2_read_X2_readCommand rfl rfl rfl hdX2_readCommand ⟨Nat.le_of_ble_eq_true rfl, Nat.le_of_ble_eq_true rfl⟩ hP hD rfl rfl rfl rfl hl.1 rfl (Nat.le_of_ble_eq_true rfl) dX2_read_21 ⟨Nat.zero_le _, Nat.zero_le _⟩) hD hS hA (fun H locs hP hD hS => ?_)
    refine lv_istore_n (lv' := [(3, .int v18.1), (2, .int t12.2.2.2.2.2), (0, .ref a0), (1, .ref a5)]) hx hb dX2_read_24 rfl hl (by decide) rfl (fun ls hl => ?_)
    refine lv_iload_n hx hb dX2_read_25 rfl (lv_at hl 0 rfl) ?_
    refine lv_bipush (v := (-100 : Int32)) hx hb dX2_read_26 (by decide) ?_
    refine lv_icmp_eq (tgt := 33) hx hb dX2_read_28 (by decide) (fun c20 => ?_) (fun c20 => ?_)
    · have hf := kIfT c20 hf
      refine lv_aload_n hx hb dX2_read_33 rfl (lv_at hl 2 rfl) ?_
      refine lv_iload_n hx hb dX2_read_34 rfl (lv_at hl 1 rfl) ?_
      refine lv_iconst (v := (1 : Int32)) hx hb dX2_read_35 (by decide) ?_
      refine lv_iadd hx hb dX2_read_36 ?_
      refine va_put (D := D) (ci := 2) (v := .int (t12.2.2.2.2.2 + (1 : Int32))) (ty := .int) (C := RX2) (T := TX2) (N := 7) hx hb hts hinX2 tyX2 tyX2_ok nmX2 hown hK.1 hP hD hS 0 rfl rfl 6 (by decide) hfl31 (fun _ h9 => h9) rfl (by decide +kernel) rfl rfl (Nat.le_of_ble_eq_true rfl) dX2_read_37 (fun H locs hP hD hS => ?_)
      have hP : va_P D vwCl (wX2_X1 cI a0 a1 a2 a3 a4 a5 a6 TB LN v18.2.1 v18.2.2.1 v18.2.2.2.1 v18.2.2.2.2 (t12.2.2.2.2.2 + (1 : Int32)) R) H := hP
      have hD : va_D A (wX2_X1 cI a0 a1 a2 a3 a4 a5 a6 TB LN v18.2.1 v18.2.2.1 v18.2.2.2.1 v18.2.2.2.2 (t12.2.2.2.2.2 + (1 : Int32)) R) := hD
      refine lv_aload_n hx hb dX2_read_40 rfl (lv_at hl 2 rfl) ?_
      obtain ⟨v21, h22, hf⟩ := kBind hf
      refine kgoJ (wr := [(a5, .inr (1, [.ref a6])), (a6, .inl (cI, 132, .inl R))]) (w2 := (wX2_X1 cI a0 a1 a2 a3 a4 a5 a6 TB LN v21 v18.2.2.1 v18.2.2.2.1 v18.2.2.2.2 (t12.2.2.2.2.2 + (1 : Int32)) R)) (krunV (wc := (wX2 cI a0 a1 a2 a3 a4 TB LN v18.2.1 v18.2.2.1 v18.2.2.2.1 v18.2.2.2.2 (t12.2.2.2.2.2 + (1 : Int32)))) (As := []) (rest := []) (ci := 2) hx hb hml hown hts hK (kX2_skipBlanks l D cI fu a0 a1 a2 a3 a4 TB LN v18.2.1 v18.2.2.1 v18.2.2.2.1 v18.2.2.2.2 (t12.2.2.2.2.2 + (1 : Int32)) v21 h22) gX2_read_X2_skipBlanks rfl rfl rfl hdX2_skipBlanks ⟨Nat.le_of_ble_eq_true rfl, Nat.le_of_ble_eq_true rfl⟩ (hP.sub [0, 1, 2, 3, 4] rfl) (hD.sub [0, 1, 2, 3, 4] (by decide) rfl) rfl rfl rfl rfl hl.1 rfl (Nat.le_of_ble_eq_true rfl) dX2_read_41 ⟨Nat.zero_le _, Nat.zero_le _⟩) hP hD hS hA [0, 1, 2, 3, 4] [5, 6] [2, 3, 4, 5, 6, 0, 1] rfl rfl (by decide) (by decide) (by decide) rfl (fun H locs hP hD hS => ?_)
      refine lv_aload_n hx hb dX2_read_44 rfl (lv_at hl 2 rfl) ?_
      obtain ⟨v23, h24, hf⟩ := kBind hf
      refine kgoR (krunV (wc := (wX2 cI a0 a1 a2 a3 a4 TB LN v21 v18.2.2.1 v18.2.2.2.1 v18.2.2.2.2 (t12.2.2.2.2.2 + (1 : Int32)))) (As := []) (rest := []) (ci := 2) hx hb hml hown hts hK (kX2_byteHere l D cI a0 a1 a2 a3 a4 TB LN v21 v18.2.2.1 v18.2.2.2.1 v18.2.2.2.2 (t12.2.2.2.2.2 + (1 : Int32)) v23 h24) gX2_read_X2_byteHere rfl rfl rfl hdX2_byteHere ⟨Nat.le_of_ble_eq_true rfl, Nat.le_of_ble_eq_true rfl⟩ (hP.sub [0, 1, 2, 3, 4] rfl) (hD.sub [0, 1, 2, 3, 4] (by decide) rfl) rfl rfl rfl rfl hl.1 rfl (Nat.le_of_ble_eq_true rfl) dX2_read_45 ⟨Nat.zero_le _, Nat.zero_le _⟩) hP hD hS hA [0, 1, 2, 3, 4] rfl (fun H locs hP hS => ?_)
      refine lv_iconst (v := (-1 : Int32)) hx hb dX2_read_48 (by decide) ?_
      refine lv_icmp_ne (tgt := 55) hx hb dX2_read_49 (by decide) (fun c25 => ?_) (fun c25 => ?_)
      · have hf := kIfF c25 hf
        refine lv_aload_n hx hb dX2_read_55 rfl (lv_at hl 2 rfl) ?_
        obtain ⟨v26, h27, hf⟩ := kBind hf
        refine kgoR (krunV (wc := (wX2 cI a0 a1 a2 a3 a4 TB LN v21 v18.2.2.1 v18.2.2.2.1 v18.2.2.2.2 (t12.2.2.2.2.2 + (1 : Int32)))) (As := []) (rest := []) (ci := 2) hx hb hml hown hts hK (kX2_byteHere l D cI a0 a1 a2 a3 a4 TB LN v21 v18.2.2.1 v18.2.2.2.1 v18.2.2.2.2 (t12.2.2.2.2.2 + (1 : Int32)) v26 h27) gX2_read_X2_byteHere rfl rfl rfl hdX2_byteHere ⟨Nat.le_of_ble_eq_true rfl, Nat.le_of_ble_eq_true rfl⟩ (hP.sub [0, 1, 2, 3, 4] rfl) (hD.sub [0, 1, 2, 3, 4] (by decide) rfl) rfl rfl rfl rfl hl.1 rfl (Nat.le_of_ble_eq_true rfl) dX2_read_56 ⟨Nat.zero_le _, Nat.zero_le _⟩) hP hD hS hA [0, 1, 2, 3, 4] rfl (fun H locs hP hS => ?_)
        refine lv_bipush (v := (59 : Int32)) hx hb dX2_read_59 (by decide) ?_
        refine lv_icmp_eq (tgt := 69) hx hb dX2_read_61 (by decide) (fun c28 => ?_) (fun c28 => ?_)
        · have hf := kIfT c28 hf
          refine lv_aload_n hx hb dX2_read_69 rfl (lv_at hl 2 rfl) ?_
          refine lv_dup hx hb dX2_read_70 rfl ?_
          refine va_get (D := D) (ci := 2) (v := .int v21) (C := RX2) (T := TX2) (N := 7) hx hb hts hinX2 hown hK.1 hP 0 rfl rfl 2 (by decide) hfl19 (fun _ h9 => h9) rfl dX2_read_71 ?_
          refine lv_iconst (v := (1 : Int32)) hx hb dX2_read_74 (by decide) ?_
          refine lv_iadd hx hb dX2_read_75 ?_
          refine va_put (D := D) (ci := 2) (v := .int (v21 + (1 : Int32))) (ty := .int) (C := RX2) (T := TX2) (N := 7) hx hb hts hinX2 tyX2 tyX2_ok nmX2 hown hK.1 hP hD hS 0 rfl rfl 2 (by decide) hfl19 (fun _ h9 => h9) rfl (by decide +kernel) rfl rfl (Nat.le_of_ble_eq_true rfl) dX2_read_76 (fun H locs hP hD hS => ?_)
          have hP : va_P D vwCl (wX2_X1 cI a0 a1 a2 a3 a4 a5 a6 TB LN (v21 + (1 : Int32)) v18.2.2.1 v18.2.2.2.1 v18.2.2.2.2 (t12.2.2.2.2.2 + (1 : Int32)) R) H := hP
          have hD : va_D A (wX2_X1 cI a0 a1 a2 a3 a4 a5 a6 TB LN (v21 + (1 : Int32)) v18.2.2.1 v18.2.2.2.1 v18.2.2.2.2 (t12.2.2.2.2.2 + (1 : Int32)) R) := hD
          refine lv_iinc (v := t12.2.2.2.2.2 + (1 : Int32)) (lv' := [(2, .int (t12.2.2.2.2.2 + (1 : Int32))), (3, .int v18.1), (0, .ref a0), (1, .ref a5)]) hx hb dX2_read_79 hl (k := 1) rfl rfl (by decide) rfl (fun ls hl => ?_)
          refine lv_goto (tgt := 12) hx hb dX2_read_82 (by decide) ?_
          obtain ⟨z29, hz29⟩ : ∃ z : Int32, z = t12.2.2.2.2.2 + (1 : Int32) := ⟨_, rfl⟩
          rw [← hz29] at hf
          obtain ⟨z30, hz30⟩ : ∃ z : Int32, z = v21 + (1 : Int32) := ⟨_, rfl⟩
          rw [← hz30] at hf
          have hP : va_P D vwCl (wX2_X1 cI a0 a1 a2 a3 a4 a5 a6 TB LN z30 v18.2.2.1 v18.2.2.2.1 v18.2.2.2.2 z29 R) H := by rw [hz29, hz30]; exact hP
          have hD : va_D A (wX2_X1 cI a0 a1 a2 a3 a4 a5 a6 TB LN z30 v18.2.2.1 v18.2.2.2.1 v18.2.2.2.2 z29 R) := by rw [hz29, hz30]; exact hD
          have he := (Option.some.inj hf).symm
          have hl : lv_has ls 4 [(2, .int z29), (0, .ref a0), (1, .ref a5)] := by rw [hz29]; exact lv_sub hl [0, 2, 3] rfl
          exact hI1 _ he H locs ls hP hD hS hl
        · have hf := kIfF c28 hf
          refine lv_aload_n hx hb dX2_read_64 rfl (lv_at hl 2 rfl) ?_
          refine va_get (D := D) (ci := 2) (v := .int v21) (C := RX2) (T := TX2) (N := 7) hx hb hts hinX2 hown hK.1 hP 0 rfl rfl 2 (by decide) hfl19 (fun _ h9 => h9) rfl dX2_read_65 ?_
          obtain ⟨z31, hz31⟩ : ∃ z : Int32, z = t12.2.2.2.2.2 + (1 : Int32) := ⟨_, rfl⟩
          rw [← hz31] at hf
          have hP : va_P D vwCl (wX2_X1 cI a0 a1 a2 a3 a4 a5 a6 TB LN v21 v18.2.2.1 v18.2.2.2.1 v18.2.2.2.2 z31 R) H := by rw [hz31]; exact hP
          have hD : va_D A (wX2_X1 cI a0 a1 a2 a3 a4 a5 a6 TB LN v21 v18.2.2.1 v18.2.2.2.1 v18.2.2.2.2 z31 R) := by rw [hz31]; exact hD
          have he := Option.some.inj hf
          have he := hO1 _ he.symm
          subst he
          exact kreti hx hb hr hlk hP hD hS dX2_read_68
      · have hf := kIfT c25 hf
        refine lv_bipush (v := (-100 : Int32)) hx hb dX2_read_52 (by decide) ?_
        obtain ⟨z32, hz32⟩ : ∃ z : Int32, z = t12.2.2.2.2.2 + (1 : Int32) := ⟨_, rfl⟩
        rw [← hz32] at hf
        have hP : va_P D vwCl (wX2_X1 cI a0 a1 a2 a3 a4 a5 a6 TB LN v21 v18.2.2.1 v18.2.2.2.1 v18.2.2.2.2 z32 R) H := by rw [hz32]; exact hP
        have hD : va_D A (wX2_X1 cI a0 a1 a2 a3 a4 a5 a6 TB LN v21 v18.2.2.1 v18.2.2.2.1 v18.2.2.2.2 z32 R) := by rw [hz32]; exact hD
        have he := Option.some.inj hf
        have he := hO1 _ he.symm
        subst he
        exact kreti hx hb hr hlk hP hD hS dX2_read_54
    · have hf := kIfF c20 hf
      refine lv_iload_n hx hb dX2_read_31 rfl (lv_at hl 0 rfl) ?_
      have he := Option.some.inj hf
      have he := hO1 _ he.symm
      subst he
      exact kreti hx hb hr hlk hP hD hS dX2_read_32
set_option maxHeartbeats 4000000 in
set_option maxRecDepth 100000 in
theorem kX3_isPriority (l : Launch) (D : va_G) (cI : ClassId) (x0 : Int32) (o : Bool) (hf : fX3_isPriority x0 = some o) : Ct l yX3_isPriority wsX3_isPriority { frames := 0, cells := 0, slots := 0, locals := 0 } D cI [.int x0] ([] : va_W) ([] : va_W) (some (.int (bI o))) := by
  refine Ct.of (cc := cX3_isPriority) (maxL := 1) (ret := (some .boolean)) (by decide) rfl (Nat.le_of_ble_eq_true rfl) ?_
  intro p e s m args below meth c A F hP hD hS ls hl
  obtain ⟨hx, hb, hml, hr, hown, hts, hlk, hK, hA⟩ := F
  have hown : s.vm.findClass RX3 = some m.cls := hown
  have hl : lv_has ls 1 [(0, .int x0)] := hl
  unfold fX3_isPriority at hf
  refine lv_iload_n hx hb dX3_isPriority_0 rfl (lv_at hl 0 rfl) ?_
  refine lv_if_lt (tgt := 14) hx hb dX3_isPriority_1 (by decide) (fun c1 => ?_) (fun c1 => ?_)
  · have hf := kIfT c1 hf
    refine lv_iconst (v := (0 : Int32)) hx hb dX3_isPriority_14 (by decide) ?_
    have he := Option.some.inj hf
    subst he
    exact kretz hx hb hr hlk hP hD hS dX3_isPriority_15
  · have hf := kIfF c1 hf
    refine lv_iload_n hx hb dX3_isPriority_4 rfl (lv_at hl 0 rfl) ?_
    refine lv_bipush (v := (9 : Int32)) hx hb dX3_isPriority_5 (by decide) ?_
    refine lv_icmp_gt (tgt := 14) hx hb dX3_isPriority_7 (by decide) (fun c2 => ?_) (fun c2 => ?_)
    · have hf := kIfT c2 hf
      refine lv_iconst (v := (0 : Int32)) hx hb dX3_isPriority_14 (by decide) ?_
      have he := Option.some.inj hf
      subst he
      exact kretz hx hb hr hlk hP hD hS dX3_isPriority_15
    · have hf := kIfF c2 hf
      refine lv_iconst (v := (1 : Int32)) hx hb dX3_isPriority_10 (by decide) ?_
      refine lv_goto (tgt := 15) hx hb dX3_isPriority_11 (by decide) ?_
      have he := Option.some.inj hf
      subst he
      exact kretz hx hb hr hlk hP hD hS dX3_isPriority_15
set_option maxHeartbeats 4000000 in
set_option maxRecDepth 100000 in
theorem kX3_addCrane (l : Launch) (D : va_G) (cI : ClassId) (a0 a1 a2 a3 a4 a5 a6 a7 a8 a9 a10 a11 : Nat) (R : (Nat → Int32)) (R2 : (Nat → Int32)) (HR : (Nat → Int32)) (HS : Int32) (HN : Int32) (TB : (Nat → Int32)) (LN : Int32) (PS : Int32) (TC : (Nat → Int32)) (TW : (Nat → Int32)) (TG : (Nat → Int32)) (CM : Int32) (x1 : Int32) (x2 : Int32) (x3 : Int32) (o : Int32 × (Nat → Int32) × (Nat → Int32) × Int32 × Int32) (hf : fX3_addCrane R HR HS HN x1 x2 x3 = some o) : Ct l yX3_addCrane wsX3_addCrane { frames := 3, cells := 0, slots := 0, locals := 61 } D cI [.ref a0, .int x1, .int x2, .int x3] (wX3 cI a0 a1 a2 a3 a4 a5 a6 a7 a8 a9 a10 a11 R R2 HR HS HN TB LN PS TC TW TG CM) (wX3 cI a0 a1 a2 a3 a4 a5 a6 a7 a8 a9 a10 a11 o.2.1 R2 o.2.2.1 o.2.2.2.1 o.2.2.2.2 TB LN PS TC TW TG CM) (some (.int o.1)) := by
  refine Ct.of (cc := cX3_addCrane) (maxL := 4) (ret := (some .int)) (by decide) rfl (Nat.le_of_ble_eq_true rfl) ?_
  intro p e s m args below meth c A F hP hD hS ls hl
  obtain ⟨hx, hb, hml, hr, hown, hts, hlk, hK, hA⟩ := F
  have hown : s.vm.findClass RX3 = some m.cls := hown
  have hl : lv_has ls 4 [(0, .ref a0), (1, .int x1), (2, .int x2), (3, .int x3)] := hl
  have hinX3 : ∀ w ∈ wsX30, w ∈ wsX3_addCrane := by decide +kernel
  have hfl10 := hts (.fieldLink RX3 10 "CraneGuard" "site" "LCraneGuard$Site;") (by decide +kernel)
  have hfl22 := hts (.fieldLink RX3 22 "CraneGuard" "history" "LCraneGuard$History;") (by decide +kernel)
  unfold fX3_addCrane at hf
  refine lv_iload_n hx hb dX3_addCrane_0 rfl (lv_at hl 1 rfl) ?_
  obtain ⟨v1, h2, hf⟩ := kBind hf
  refine kgoR (krunS (wc := ([] : va_W)) (As := [.int x1]) (rest := []) hx hb hml hown hts hK (kX3_isAngle l D cI x1 v1 h2) gX3_addCrane_X3_isAngle rfl rfl rfl hdX3_isAngle ⟨Nat.le_of_ble_eq_true rfl, Nat.le_of_ble_eq_true rfl⟩ k_P0 (k_D0 A) rfl hl.1 rfl (Nat.le_of_ble_eq_true rfl) dX3_addCrane_1 ⟨Nat.zero_le _, Nat.zero_le _⟩) hP hD hS hA [] rfl (fun H locs hP hS => ?_)
  refine kif_eqb (tgt := 24) hx hb dX3_addCrane_4 (by decide) (fun c3 => ?_) (fun c3 => ?_)
  · have hf := kIfF c3 hf
    refine lv_bipush (v := (-102 : Int32)) hx hb dX3_addCrane_24 (by decide) ?_
    have he := Option.some.inj hf
    subst he
    exact kreti hx hb hr hlk hP hD hS dX3_addCrane_26
  · have hf := kIfT c3 hf
    refine lv_iload_n hx hb dX3_addCrane_7 rfl (lv_at hl 2 rfl) ?_
    refine lv_iconst (v := (1 : Int32)) hx hb dX3_addCrane_8 (by decide) ?_
    refine lv_icmp_lt (tgt := 24) hx hb dX3_addCrane_9 (by decide) (fun c4 => ?_) (fun c4 => ?_)
    · have hf := kIfT c4 hf
      refine lv_bipush (v := (-102 : Int32)) hx hb dX3_addCrane_24 (by decide) ?_
      have he := Option.some.inj hf
      subst he
      exact kreti hx hb hr hlk hP hD hS dX3_addCrane_26
    · have hf := kIfF c4 hf
      refine lv_iload_n hx hb dX3_addCrane_12 rfl (lv_at hl 2 rfl) ?_
      refine lv_iconst (v := (5 : Int32)) hx hb dX3_addCrane_13 (by decide) ?_
      refine lv_icmp_gt (tgt := 24) hx hb dX3_addCrane_14 (by decide) (fun c5 => ?_) (fun c5 => ?_)
      · have hf := kIfT c5 hf
        refine lv_bipush (v := (-102 : Int32)) hx hb dX3_addCrane_24 (by decide) ?_
        have he := Option.some.inj hf
        subst he
        exact kreti hx hb hr hlk hP hD hS dX3_addCrane_26
      · have hf := kIfF c5 hf
        refine lv_iload_n hx hb dX3_addCrane_17 rfl (lv_at hl 3 rfl) ?_
        obtain ⟨v6, h7, hf⟩ := kBind hf
        refine kgoR (krunS (wc := ([] : va_W)) (As := [.int x3]) (rest := []) hx hb hml hown hts hK (kX3_isPriority l D cI x3 v6 h7) gX3_addCrane_X3_isPriority rfl rfl rfl hdX3_isPriority ⟨Nat.le_of_ble_eq_true rfl, Nat.le_of_ble_eq_true rfl⟩ k_P0 (k_D0 A) rfl hl.1 rfl (Nat.le_of_ble_eq_true rfl) dX3_addCrane_18 ⟨Nat.zero_le _, Nat.zero_le _⟩) hP hD hS hA [] rfl (fun H locs hP hS => ?_)
        refine kif_neb (tgt := 27) hx hb dX3_addCrane_21 (by decide) (fun c8 => ?_) (fun c8 => ?_)
        · have hf := kIfT c8 hf
          refine lv_aload_n hx hb dX3_addCrane_27 rfl (lv_at hl 0 rfl) ?_
          refine va_get (D := D) (ci := 3) (v := .ref a1) (C := RX3) (T := TX3) (N := 4) hx hb hts hinX3 hown hK.1 hP 0 rfl rfl 0 (by decide) hfl10 (fun _ h9 => h9) rfl dX3_addCrane_28 ?_
          obtain ⟨v9, h10, hf⟩ := kBind hf
          refine kgoR (krunV (wc := (wX1 cI a1 a2 R)) (As := []) (rest := []) (ci := 1) hx hb hml hown hts hK (kX1_craneCount l D cI a1 a2 R v9 h10) gX3_addCrane_X1_craneCount rfl rfl rfl hdX1_craneCount ⟨Nat.le_of_ble_eq_true rfl, Nat.le_of_ble_eq_true rfl⟩ (hP.sub [1, 2] rfl) (hD.sub [1, 2] (by decide) rfl) rfl rfl rfl rfl hl.1 rfl (Nat.le_of_ble_eq_true rfl) dX3_addCrane_31 ⟨Nat.zero_le _, Nat.zero_le _⟩) hP hD hS hA [1, 2] rfl (fun H locs hP hS => ?_)
          refine lv_iconst (v := (4 : Int32)) hx hb dX3_addCrane_34 (by decide) ?_
          refine lv_icmp_lt (tgt := 41) hx hb dX3_addCrane_35 (by decide) (fun c11 => ?_) (fun c11 => ?_)
          · have hf := kIfT c11 hf
            refine lv_aload_n hx hb dX3_addCrane_41 rfl (lv_at hl 0 rfl) ?_
            refine va_get (D := D) (ci := 3) (v := .ref a5) (C := RX3) (T := TX3) (N := 4) hx hb hts hinX3 hown hK.1 hP 0 rfl rfl 2 (by decide) hfl22 (fun _ h9 => h9) rfl dX3_addCrane_42 ?_
            refine lv_aload_n hx hb dX3_addCrane_45 rfl (lv_at hl 0 rfl) ?_
            refine va_get (D := D) (ci := 3) (v := .ref a1) (C := RX3) (T := TX3) (N := 4) hx hb hts hinX3 hown hK.1 hP 0 rfl rfl 0 (by decide) hfl10 (fun _ h9 => h9) rfl dX3_addCrane_46 ?_
            obtain ⟨v12, h13, hf⟩ := kBind hf
            refine kgoJ (wr := [(a0, .inr (3, [.ref a1, .ref a3, .ref a5, .ref a7])), (a3, .inr (1, [.ref a4])), (a4, .inl (cI, 132, .inl R2)), (a7, .inr (2, [.ref a8, .int LN, .int PS, .ref a9, .ref a10, .ref a11, .int CM])), (a8, .inl (cI, 80, .inl TB)), (a9, .inl (cI, 20, .inl TC)), (a10, .inl (cI, 20, .inl TW)), (a11, .inl (cI, 20, .inl TG))]) (w2 := (wX3 cI a0 a1 a2 a3 a4 a5 a6 a7 a8 a9 a10 a11 R R2 v12.1 v12.2.1 v12.2.2 TB LN PS TC TW TG CM)) (krunV (wc := (wX0_X1 cI a5 a6 a1 a2 HR HS HN R)) (As := [.ref a1]) (rest := []) (ci := 0) hx hb hml hown hts hK (kX0_keep l D cI a5 a6 a1 a2 HR HS HN R v12 h13) gX3_addCrane_X0_keep rfl rfl rfl hdX0_keep ⟨Nat.le_of_ble_eq_true rfl, Nat.le_of_ble_eq_true rfl⟩ (hP.sub [5, 6, 1, 2] rfl) (hD.sub [5, 6, 1, 2] (by decide) rfl) rfl rfl rfl rfl hl.1 rfl (Nat.le_of_ble_eq_true rfl) dX3_addCrane_49 ⟨Nat.zero_le _, Nat.zero_le _⟩) hP hD hS hA [5, 6, 1, 2] [0, 3, 4, 7, 8, 9, 10, 11] [0, 10, 11, 1, 2, 8, 9, 3, 4, 5, 6, 7] rfl rfl (by decide) (by decide) (by decide) rfl (fun H locs hP hD hS => ?_)
            refine lv_aload_n hx hb dX3_addCrane_52 rfl (lv_at hl 0 rfl) ?_
            refine va_get (D := D) (ci := 3) (v := .ref a1) (C := RX3) (T := TX3) (N := 4) hx hb hts hinX3 hown hK.1 hP 0 rfl rfl 0 (by decide) hfl10 (fun _ h9 => h9) rfl dX3_addCrane_53 ?_
            refine lv_iload_n hx hb dX3_addCrane_56 rfl (lv_at hl 1 rfl) ?_
            refine lv_iload_n hx hb dX3_addCrane_57 rfl (lv_at hl 2 rfl) ?_
            refine lv_iload_n hx hb dX3_addCrane_58 rfl (lv_at hl 3 rfl) ?_
            obtain ⟨v14, h15, hf⟩ := kBind hf
            refine kgoJ (wr := [(a0, .inr (3, [.ref a1, .ref a3, .ref a5, .ref a7])), (a3, .inr (1, [.ref a4])), (a4, .inl (cI, 132, .inl R2)), (a5, .inr (0, [.ref a6, .int v12.2.1, .int v12.2.2])), (a6, .inl (cI, 660, .inl v12.1)), (a7, .inr (2, [.ref a8, .int LN, .int PS, .ref a9, .ref a10, .ref a11, .int CM])), (a8, .inl (cI, 80, .inl TB)), (a9, .inl (cI, 20, .inl TC)), (a10, .inl (cI, 20, .inl TW)), (a11, .inl (cI, 20, .inl TG))]) (w2 := (wX3 cI a0 a1 a2 a3 a4 a5 a6 a7 a8 a9 a10 a11 v14.2 R2 v12.1 v12.2.1 v12.2.2 TB LN PS TC TW TG CM)) (krunV (wc := (wX1 cI a1 a2 R)) (As := [.int x1, .int x2, .int x3]) (rest := []) (ci := 1) hx hb hml hown hts hK (kX1_putCrane l D cI a1 a2 R x1 x2 x3 v14 h15) gX3_addCrane_X1_putCrane rfl rfl rfl hdX1_putCrane ⟨Nat.le_of_ble_eq_true rfl, Nat.le_of_ble_eq_true rfl⟩ (hP.sub [1, 2] rfl) (hD.sub [1, 2] (by decide) rfl) rfl rfl rfl rfl hl.1 rfl (Nat.le_of_ble_eq_true rfl) dX3_addCrane_59 ⟨Nat.zero_le _, Nat.zero_le _⟩) hP hD hS hA [1, 2] [0, 3, 4, 5, 6, 7, 8, 9, 10, 11] [0, 10, 11, 1, 2, 3, 4, 5, 6, 7, 8, 9] rfl rfl (by decide) (by decide) (by decide) rfl (fun H locs hP hD hS => ?_)
            have he := Option.some.inj hf
            subst he
            exact kreti hx hb hr hlk hP hD hS dX3_addCrane_62
          · have hf := kIfF c11 hf
            refine lv_bipush (v := (-104 : Int32)) hx hb dX3_addCrane_38 (by decide) ?_
            have he := Option.some.inj hf
            subst he
            exact kreti hx hb hr hlk hP hD hS dX3_addCrane_40
        · have hf := kIfF c8 hf
          refine lv_bipush (v := (-102 : Int32)) hx hb dX3_addCrane_24 (by decide) ?_
          have he := Option.some.inj hf
          subst he
          exact kreti hx hb hr hlk hP hD hS dX3_addCrane_26
set_option maxHeartbeats 4000000 in
set_option maxRecDepth 100000 in
theorem kX3_ticksUntilDone (l : Launch) (D : va_G) (cI : ClassId) (fu : Nat) (a0 a1 a2 a3 a4 a5 a6 a7 a8 a9 a10 a11 : Nat) (R : (Nat → Int32)) (R2 : (Nat → Int32)) (HR : (Nat → Int32)) (HS : Int32) (HN : Int32) (TB : (Nat → Int32)) (LN : Int32) (PS : Int32) (TC : (Nat → Int32)) (TW : (Nat → Int32)) (TG : (Nat → Int32)) (CM : Int32) (x1 : Int32) (o : Int32 × (Nat → Int32)) (hf : fX3_ticksUntilDone fu R R2 x1 = some o) : Ct l yX3_ticksUntilDone wsX3_ticksUntilDone { frames := 5, cells := 0, slots := 0, locals := 115 } D cI [.ref a0, .int x1] (wX3 cI a0 a1 a2 a3 a4 a5 a6 a7 a8 a9 a10 a11 R R2 HR HS HN TB LN PS TC TW TG CM) (wX3 cI a0 a1 a2 a3 a4 a5 a6 a7 a8 a9 a10 a11 R o.2 HR HS HN TB LN PS TC TW TG CM) (some (.int o.1)) := by
  refine Ct.of (cc := cX3_ticksUntilDone) (maxL := 3) (ret := (some .int)) (by decide) rfl (Nat.le_of_ble_eq_true rfl) ?_
  intro p e s m args below meth c A F hP hD hS ls hl
  obtain ⟨hx, hb, hml, hr, hown, hts, hlk, hK, hA⟩ := F
  have hown : s.vm.findClass RX3 = some m.cls := hown
  have hl : lv_has ls 3 [(0, .ref a0), (1, .int x1)] := hl
  have hinX3 : ∀ w ∈ wsX30, w ∈ wsX3_ticksUntilDone := by decide +kernel
  have hfl10 := hts (.fieldLink RX3 10 "CraneGuard" "site" "LCraneGuard$Site;") (by decide +kernel)
  have hfl16 := hts (.fieldLink RX3 16 "CraneGuard" "trial" "LCraneGuard$Site;") (by decide +kernel)
  unfold fX3_ticksUntilDone at hf
  refine lv_aload_n hx hb dX3_ticksUntilDone_0 rfl (lv_at hl 0 rfl) ?_
  refine va_get (D := D) (ci := 3) (v := .ref a3) (C := RX3) (T := TX3) (N := 4) hx hb hts hinX3 hown hK.1 hP 0 rfl rfl 1 (by decide) hfl16 (fun _ h9 => h9) rfl dX3_ticksUntilDone_1 ?_
  refine lv_aload_n hx hb dX3_ticksUntilDone_4 rfl (lv_at hl 0 rfl) ?_
  refine va_get (D := D) (ci := 3) (v := .ref a1) (C := RX3) (T := TX3) (N := 4) hx hb hts hinX3 hown hK.1 hP 0 rfl rfl 0 (by decide) hfl10 (fun _ h9 => h9) rfl dX3_ticksUntilDone_5 ?_
  obtain ⟨v1, h2, hf⟩ := kBind hf
  refine kgoJ (wr := [(a0, .inr (3, [.ref a1, .ref a3, .ref a5, .ref a7])), (a5, .inr (0, [.ref a6, .int HS, .int HN])), (a6, .inl (cI, 660, .inl HR)), (a7, .inr (2, [.ref a8, .int LN, .int PS, .ref a9, .ref a10, .ref a11, .int CM])), (a8, .inl (cI, 80, .inl TB)), (a9, .inl (cI, 20, .inl TC)), (a10, .inl (cI, 20, .inl TW)), (a11, .inl (cI, 20, .inl TG))]) (w2 := (wX3 cI a0 a1 a2 a3 a4 a5 a6 a7 a8 a9 a10 a11 R v1 HR HS HN TB LN PS TC TW TG CM)) (krunV (wc := (wX1_X1 cI a3 a4 a1 a2 R2 R)) (As := [.ref a1]) (rest := []) (ci := 1) hx hb hml hown hts hK (kX1_copyFrom l D cI a3 a4 a1 a2 R2 R v1 h2) gX3_ticksUntilDone_X1_copyFrom rfl rfl rfl hdX1_copyFrom ⟨Nat.le_of_ble_eq_true rfl, Nat.le_of_ble_eq_true rfl⟩ (hP.sub [3, 4, 1, 2] rfl) (hD.sub [3, 4, 1, 2] (by decide) rfl) rfl rfl rfl rfl hl.1 rfl (Nat.le_of_ble_eq_true rfl) dX3_ticksUntilDone_8 ⟨Nat.zero_le _, Nat.zero_le _⟩) hP hD hS hA [3, 4, 1, 2] [0, 5, 6, 7, 8, 9, 10, 11] [0, 10, 11, 8, 9, 1, 2, 3, 4, 5, 6, 7] rfl rfl (by decide) (by decide) (by decide) rfl (fun H locs hP hD hS => ?_)
  refine lv_iconst (v := (0 : Int32)) hx hb dX3_ticksUntilDone_11 (by decide) ?_
  refine lv_istore_n (lv' := [(2, .int (0 : Int32)), (0, .ref a0), (1, .int x1)]) hx hb dX3_ticksUntilDone_12 rfl hl (by decide) rfl (fun ls hl => ?_)
  have hl : lv_has ls 3 [(2, .int (0 : Int32)), (0, .ref a0), (1, .int x1)] := hl
  refine klp hf (fun t13 : (Nat → Int32) × Int32 => (wX3 cI a0 a1 a2 a3 a4 a5 a6 a7 a8 a9 a10 a11 R t13.1 HR HS HN TB LN PS TC TW TG CM)) 3 (fun t13 : (Nat → Int32) × Int32 => [(2, .int t13.2), (0, .ref a0), (1, .int x1)]) ?_ hP hD hS hl
  intro t13 x13_ hf hI1 hO1 H locs ls hP hD hS hl
  unfold fX3_ticksUntilDone_L13 at hf
  have hP : va_P D vwCl (wX3 cI a0 a1 a2 a3 a4 a5 a6 a7 a8 a9 a10 a11 R t13.1 HR HS HN TB LN PS TC TW TG CM) H := hP
  have hD : va_D A (wX3 cI a0 a1 a2 a3 a4 a5 a6 a7 a8 a9 a10 a11 R t13.1 HR HS HN TB LN PS TC TW TG CM) := hD
  have hl : lv_has ls 3 [(2, .int t13.2), (0, .ref a0), (1, .int x1)] := hl
  refine lv_iload_n hx hb dX3_ticksUntilDone_13 rfl (lv_at hl 0 rfl) ?_
  refine lv_sipush (v := (1000 : Int32)) hx hb dX3_ticksUntilDone_14 (by decide) ?_
  refine lv_icmp_gt (tgt := 53) hx hb dX3_ticksUntilDone_17 (by decide) (fun c11 => ?_) (fun c11 => ?_)
  · have hf := kIfT c11 hf
    refine lv_bipush (v := (-100 : Int32)) hx hb dX3_ticksUntilDone_53 (by decide) ?_
    have he := Option.some.inj hf
    have he := hO1 _ he.symm
    subst he
    exact kreti hx hb hr hlk hP hD hS dX3_ticksUntilDone_55
  · have hf := kIfF c11 hf
    refine lv_aload_n hx hb dX3_ticksUntilDone_20 rfl (lv_at hl 1 rfl) ?_
    refine va_get (D := D) (ci := 3) (v := .ref a3) (C := RX3) (T := TX3) (N := 4) hx hb hts hinX3 hown hK.1 hP 0 rfl rfl 1 (by decide) hfl16 (fun _ h9 => h9) rfl dX3_ticksUntilDone_21 ?_
    obtain ⟨v12, h13, hf⟩ := kBind hf
    refine kgoR (krunV (wc := (wX1 cI a3 a4 t13.1)) (As := []) (rest := []) (ci := 1) hx hb hml hown hts hK (kX1_cranesWithTarget l D cI fu a3 a4 t13.1 v12 h13) gX3_ticksUntilDone_X1_cranesWithTarget rfl rfl rfl hdX1_cranesWithTarget ⟨Nat.le_of_ble_eq_true rfl, Nat.le_of_ble_eq_true rfl⟩ (hP.sub [3, 4] rfl) (hD.sub [3, 4] (by decide) rfl) rfl rfl rfl rfl hl.1 rfl (Nat.le_of_ble_eq_true rfl) dX3_ticksUntilDone_24 ⟨Nat.zero_le _, Nat.zero_le _⟩) hP hD hS hA [3, 4] rfl (fun H locs hP hS => ?_)
    refine lv_iload_n hx hb dX3_ticksUntilDone_27 rfl (lv_at hl 2 rfl) ?_
    refine lv_iand hx hb dX3_ticksUntilDone_28 ?_
    refine lv_if_ne (tgt := 34) hx hb dX3_ticksUntilDone_29 (by decide) (fun c14 => ?_) (fun c14 => ?_)
    · have hf := kIfF c14 hf
      refine lv_aload_n hx hb dX3_ticksUntilDone_34 rfl (lv_at hl 1 rfl) ?_
      refine va_get (D := D) (ci := 3) (v := .ref a3) (C := RX3) (T := TX3) (N := 4) hx hb hts hinX3 hown hK.1 hP 0 rfl rfl 1 (by decide) hfl16 (fun _ h9 => h9) rfl dX3_ticksUntilDone_35 ?_
      obtain ⟨v15, h16, hf⟩ := kBind hf
      refine kgoJ (wr := [(a0, .inr (3, [.ref a1, .ref a3, .ref a5, .ref a7])), (a1, .inr (1, [.ref a2])), (a2, .inl (cI, 132, .inl R)), (a5, .inr (0, [.ref a6, .int HS, .int HN])), (a6, .inl (cI, 660, .inl HR)), (a7, .inr (2, [.ref a8, .int LN, .int PS, .ref a9, .ref a10, .ref a11, .int CM])), (a8, .inl (cI, 80, .inl TB)), (a9, .inl (cI, 20, .inl TC)), (a10, .inl (cI, 20, .inl TW)), (a11, .inl (cI, 20, .inl TG))]) (w2 := (wX3 cI a0 a1 a2 a3 a4 a5 a6 a7 a8 a9 a10 a11 R v15.2 HR HS HN TB LN PS TC TW TG CM)) (krunV (wc := (wX1 cI a3 a4 t13.1)) (As := []) (rest := []) (ci := 1) hx hb hml hown hts hK (kX1_passTick l D cI fu a3 a4 t13.1 v15 h16) gX3_ticksUntilDone_X1_passTick rfl rfl rfl hdX1_passTick ⟨Nat.le_of_ble_eq_true rfl, Nat.le_of_ble_eq_true rfl⟩ (hP.sub [3, 4] rfl) (hD.sub [3, 4] (by decide) rfl) rfl rfl rfl rfl hl.1 rfl (Nat.le_of_ble_eq_true rfl) dX3_ticksUntilDone_38 ⟨Nat.zero_le _, Nat.zero_le _⟩) hP hD hS hA [3, 4] [0, 1, 2, 5, 6, 7, 8, 9, 10, 11] [0, 1, 2, 10, 11, 3, 4, 5, 6, 7, 8, 9] rfl rfl (by decide) (by decide) (by decide) rfl (fun H locs hP hD hS => ?_)
      refine kif_neb (tgt := 47) hx hb dX3_ticksUntilDone_41 (by decide) (fun c17 => ?_) (fun c17 => ?_)
      · have hf := kIfT c17 hf
        refine lv_iinc (v := t13.2 + (1 : Int32)) (lv' := [(2, .int (t13.2 + (1 : Int32))), (0, .ref a0), (1, .int x1)]) hx hb dX3_ticksUntilDone_47 hl (k := 0) rfl rfl (by decide) rfl (fun ls hl => ?_)
        refine lv_goto (tgt := 13) hx hb dX3_ticksUntilDone_50 (by decide) ?_
        obtain ⟨z18, hz18⟩ : ∃ z : Int32, z = t13.2 + (1 : Int32) := ⟨_, rfl⟩
        rw [← hz18] at hf
        have he := (Option.some.inj hf).symm
        have hl : lv_has ls 3 [(2, .int z18), (0, .ref a0), (1, .int x1)] := by rw [hz18]; exact lv_sub hl [0, 1, 2] rfl
        exact hI1 _ he H locs ls hP hD hS hl
      · have hf := kIfF c17 hf
        refine lv_bipush (v := (-100 : Int32)) hx hb dX3_ticksUntilDone_44 (by decide) ?_
        have he := Option.some.inj hf
        have he := hO1 _ he.symm
        subst he
        exact kreti hx hb hr hlk hP hD hS dX3_ticksUntilDone_46
    · have hf := kIfT c14 hf
      refine lv_iload_n hx hb dX3_ticksUntilDone_32 rfl (lv_at hl 0 rfl) ?_
      have he := Option.some.inj hf
      have he := hO1 _ he.symm
      subst he
      exact kreti hx hb hr hlk hP hD hS dX3_ticksUntilDone_33
set_option maxHeartbeats 4000000 in
set_option maxRecDepth 100000 in
theorem kX3_allDone (l : Launch) (D : va_G) (cI : ClassId) (fu : Nat) (a0 a1 a2 a3 a4 a5 a6 a7 a8 a9 a10 a11 : Nat) (R : (Nat → Int32)) (R2 : (Nat → Int32)) (HR : (Nat → Int32)) (HS : Int32) (HN : Int32) (TB : (Nat → Int32)) (LN : Int32) (PS : Int32) (TC : (Nat → Int32)) (TW : (Nat → Int32)) (TG : (Nat → Int32)) (CM : Int32) (o : Int32 × (Nat → Int32)) (hf : fX3_allDone fu R R2 = some o) : Ct l yX3_allDone wsX3_allDone { frames := 6, cells := 0, slots := 0, locals := 137 } D cI [.ref a0] (wX3 cI a0 a1 a2 a3 a4 a5 a6 a7 a8 a9 a10 a11 R R2 HR HS HN TB LN PS TC TW TG CM) (wX3 cI a0 a1 a2 a3 a4 a5 a6 a7 a8 a9 a10 a11 R o.2 HR HS HN TB LN PS TC TW TG CM) (some (.int o.1)) := by
  refine Ct.of (cc := cX3_allDone) (maxL := 1) (ret := (some .int)) (by decide) rfl (Nat.le_of_ble_eq_true rfl) ?_
  intro p e s m args below meth c A F hP hD hS ls hl
  obtain ⟨hx, hb, hml, hr, hown, hts, hlk, hK, hA⟩ := F
  have hown : s.vm.findClass RX3 = some m.cls := hown
  have hl : lv_has ls 1 [(0, .ref a0)] := hl
  unfold fX3_allDone at hf
  refine lv_aload_n hx hb dX3_allDone_0 rfl (lv_at hl 0 rfl) ?_
  refine lv_bipush (v := (15 : Int32)) hx hb dX3_allDone_1 (by decide) ?_
  obtain ⟨v1, h2, hf⟩ := kBind hf
  refine kgoA (krunV (wc := (wX3 cI a0 a1 a2 a3 a4 a5 a6 a7 a8 a9 a10 a11 R R2 HR HS HN TB LN PS TC TW TG CM)) (As := [.int (15 : Int32)]) (rest := []) (ci := 3) hx hb hml hown hts hK (kX3_ticksUntilDone l D cI fu a0 a1 a2 a3 a4 a5 a6 a7 a8 a9 a10 a11 R R2 HR HS HN TB LN PS TC TW TG CM (15 : Int32) v1 h2) gX3_allDone_X3_ticksUntilDone rfl rfl rfl hdX3_ticksUntilDone ⟨Nat.le_of_ble_eq_true rfl, Nat.le_of_ble_eq_true rfl⟩ hP hD rfl rfl rfl rfl hl.1 rfl (Nat.le_of_ble_eq_true rfl) dX3_allDone_3 ⟨Nat.zero_le _, Nat.zero_le _⟩) hD hS hA (fun H locs hP hD hS => ?_)
  have he := Option.some.inj hf
  subst he
  exact kreti hx hb hr hlk hP hD hS dX3_allDone_6
set_option maxHeartbeats 4000000 in
set_option maxRecDepth 100000 in
theorem kX3_isZone (l : Launch) (D : va_G) (cI : ClassId) (x0 : Int32) (o : Bool) (hf : fX3_isZone x0 = some o) : Ct l yX3_isZone wsX3_isZone { frames := 0, cells := 0, slots := 0, locals := 0 } D cI [.int x0] ([] : va_W) ([] : va_W) (some (.int (bI o))) := by
  refine Ct.of (cc := cX3_isZone) (maxL := 1) (ret := (some .boolean)) (by decide) rfl (Nat.le_of_ble_eq_true rfl) ?_
  intro p e s m args below meth c A F hP hD hS ls hl
  obtain ⟨hx, hb, hml, hr, hown, hts, hlk, hK, hA⟩ := F
  have hown : s.vm.findClass RX3 = some m.cls := hown
  have hl : lv_has ls 1 [(0, .int x0)] := hl
  unfold fX3_isZone at hf
  refine lv_iload_n hx hb dX3_isZone_0 rfl (lv_at hl 0 rfl) ?_
  refine lv_if_lt (tgt := 14) hx hb dX3_isZone_1 (by decide) (fun c1 => ?_) (fun c1 => ?_)
  · have hf := kIfT c1 hf
    refine lv_iconst (v := (0 : Int32)) hx hb dX3_isZone_14 (by decide) ?_
    have he := Option.some.inj hf
    subst he
    exact kretz hx hb hr hlk hP hD hS dX3_isZone_15
  · have hf := kIfF c1 hf
    refine lv_iload_n hx hb dX3_isZone_4 rfl (lv_at hl 0 rfl) ?_
    refine lv_bipush (v := (6 : Int32)) hx hb dX3_isZone_5 (by decide) ?_
    refine lv_icmp_ge (tgt := 14) hx hb dX3_isZone_7 (by decide) (fun c2 => ?_) (fun c2 => ?_)
    · have hf := kIfT c2 hf
      refine lv_iconst (v := (0 : Int32)) hx hb dX3_isZone_14 (by decide) ?_
      have he := Option.some.inj hf
      subst he
      exact kretz hx hb hr hlk hP hD hS dX3_isZone_15
    · have hf := kIfF c2 hf
      refine lv_iconst (v := (1 : Int32)) hx hb dX3_isZone_10 (by decide) ?_
      refine lv_goto (tgt := 15) hx hb dX3_isZone_11 (by decide) ?_
      have he := Option.some.inj hf
      subst he
      exact kretz hx hb hr hlk hP hD hS dX3_isZone_15
set_option maxHeartbeats 4000000 in
set_option maxRecDepth 100000 in
theorem kX3_arc (l : Launch) (D : va_G) (cI : ClassId) (a0 a1 a2 a3 a4 a5 a6 a7 a8 a9 a10 a11 : Nat) (R : (Nat → Int32)) (R2 : (Nat → Int32)) (HR : (Nat → Int32)) (HS : Int32) (HN : Int32) (TB : (Nat → Int32)) (LN : Int32) (PS : Int32) (TC : (Nat → Int32)) (TW : (Nat → Int32)) (TG : (Nat → Int32)) (CM : Int32) (x1 : Int32) (x2 : Int32) (x3 : Bool) (o : Int32) (hf : fX3_arc R x1 x2 x3 = some o) : Ct l yX3_arc wsX3_arc { frames := 1, cells := 0, slots := 0, locals := 22 } D cI [.ref a0, .int x1, .int x2, .int (bI x3)] (wX3 cI a0 a1 a2 a3 a4 a5 a6 a7 a8 a9 a10 a11 R R2 HR HS HN TB LN PS TC TW TG CM) (wX3 cI a0 a1 a2 a3 a4 a5 a6 a7 a8 a9 a10 a11 R R2 HR HS HN TB LN PS TC TW TG CM) (some (.int o)) := by
  refine Ct.of (cc := cX3_arc) (maxL := 4) (ret := (some .int)) (by decide) rfl (Nat.le_of_ble_eq_true rfl) ?_
  intro p e s m args below meth c A F hP hD hS ls hl
  obtain ⟨hx, hb, hml, hr, hown, hts, hlk, hK, hA⟩ := F
  have hown : s.vm.findClass RX3 = some m.cls := hown
  have hl : lv_has ls 4 [(0, .ref a0), (1, .int x1), (2, .int x2), (3, .int (bI x3))] := hl
  have hinX3 : ∀ w ∈ wsX30, w ∈ wsX3_arc := by decide +kernel
  have hfl10 := hts (.fieldLink RX3 10 "CraneGuard" "site" "LCraneGuard$Site;") (by decide +kernel)
  unfold fX3_arc at hf
  refine lv_aload_n hx hb dX3_arc_0 rfl (lv_at hl 0 rfl) ?_
  refine va_get (D := D) (ci := 3) (v := .ref a1) (C := RX3) (T := TX3) (N := 4) hx hb hts hinX3 hown hK.1 hP 0 rfl rfl 0 (by decide) hfl10 (fun _ h9 => h9) rfl dX3_arc_1 ?_
  refine lv_iload_n hx hb dX3_arc_4 rfl (lv_at hl 1 rfl) ?_
  obtain ⟨v1, h2, hf⟩ := kBind hf
  refine kgoR (krunV (wc := (wX1 cI a1 a2 R)) (As := [.int x1]) (rest := []) (ci := 1) hx hb hml hown hts hK (kX1_hasCrane l D cI a1 a2 R x1 v1 h2) gX3_arc_X1_hasCrane rfl rfl rfl hdX1_hasCrane ⟨Nat.le_of_ble_eq_true rfl, Nat.le_of_ble_eq_true rfl⟩ (hP.sub [1, 2] rfl) (hD.sub [1, 2] (by decide) rfl) rfl rfl rfl rfl hl.1 rfl (Nat.le_of_ble_eq_true rfl) dX3_arc_5 ⟨Nat.zero_le _, Nat.zero_le _⟩) hP hD hS hA [1, 2] rfl (fun H locs hP hS => ?_)
  refine kif_eqb (tgt := 18) hx hb dX3_arc_8 (by decide) (fun c3 => ?_) (fun c3 => ?_)
  · have hf := kIfF c3 hf
    refine lv_bipush (v := (-101 : Int32)) hx hb dX3_arc_18 (by decide) ?_
    have he := Option.some.inj hf
    subst he
    exact kreti hx hb hr hlk hP hD hS dX3_arc_20
  · have hf := kIfT c3 hf
    refine lv_iload_n hx hb dX3_arc_11 rfl (lv_at hl 2 rfl) ?_
    obtain ⟨v4, h5, hf⟩ := kBind hf
    refine kgoR (krunS (wc := ([] : va_W)) (As := [.int x2]) (rest := []) hx hb hml hown hts hK (kX3_isZone l D cI x2 v4 h5) gX3_arc_X3_isZone rfl rfl rfl hdX3_isZone ⟨Nat.le_of_ble_eq_true rfl, Nat.le_of_ble_eq_true rfl⟩ k_P0 (k_D0 A) rfl hl.1 rfl (Nat.le_of_ble_eq_true rfl) dX3_arc_12 ⟨Nat.zero_le _, Nat.zero_le _⟩) hP hD hS hA [] rfl (fun H locs hP hS => ?_)
    refine kif_neb (tgt := 21) hx hb dX3_arc_15 (by decide) (fun c6 => ?_) (fun c6 => ?_)
    · have hf := kIfT c6 hf
      refine lv_iload_n hx hb dX3_arc_21 rfl (lv_at hl 3 rfl) ?_
      refine kif_eqb (tgt := 37) hx hb dX3_arc_22 (by decide) (fun c7 => ?_) (fun c7 => ?_)
      · have hf := kIfF c7 hf
        refine lv_aload_n hx hb dX3_arc_37 rfl (lv_at hl 0 rfl) ?_
        refine va_get (D := D) (ci := 3) (v := .ref a1) (C := RX3) (T := TX3) (N := 4) hx hb hts hinX3 hown hK.1 hP 0 rfl rfl 0 (by decide) hfl10 (fun _ h9 => h9) rfl dX3_arc_38 ?_
        refine lv_iload_n hx hb dX3_arc_41 rfl (lv_at hl 1 rfl) ?_
        refine lv_iload_n hx hb dX3_arc_42 rfl (lv_at hl 2 rfl) ?_
        obtain ⟨v8, h9, hf⟩ := kBind hf
        refine kgoR (krunV (wc := (wX1 cI a1 a2 R)) (As := [.int x1, .int x2]) (rest := []) (ci := 1) hx hb hml hown hts hK (kX1_firstOf l D cI a1 a2 R x1 x2 v8 h9) gX3_arc_X1_firstOf rfl rfl rfl hdX1_firstOf ⟨Nat.le_of_ble_eq_true rfl, Nat.le_of_ble_eq_true rfl⟩ (hP.sub [1, 2] rfl) (hD.sub [1, 2] (by decide) rfl) rfl rfl rfl rfl hl.1 rfl (Nat.le_of_ble_eq_true rfl) dX3_arc_43 ⟨Nat.zero_le _, Nat.zero_le _⟩) hP hD hS hA [1, 2] rfl (fun H locs hP hS => ?_)
        have he := Option.some.inj hf
        subst he
        exact kreti hx hb hr hlk hP hD hS dX3_arc_46
      · have hf := kIfT c7 hf
        refine lv_aload_n hx hb dX3_arc_25 rfl (lv_at hl 0 rfl) ?_
        refine va_get (D := D) (ci := 3) (v := .ref a1) (C := RX3) (T := TX3) (N := 4) hx hb hts hinX3 hown hK.1 hP 0 rfl rfl 0 (by decide) hfl10 (fun _ h9 => h9) rfl dX3_arc_26 ?_
        refine lv_iload_n hx hb dX3_arc_29 rfl (lv_at hl 1 rfl) ?_
        refine lv_iload_n hx hb dX3_arc_30 rfl (lv_at hl 2 rfl) ?_
        obtain ⟨v10, h11, hf⟩ := kBind hf
        refine kgoR (krunV (wc := (wX1 cI a1 a2 R)) (As := [.int x1, .int x2]) (rest := []) (ci := 1) hx hb hml hown hts hK (kX1_lastOf l D cI a1 a2 R x1 x2 v10 h11) gX3_arc_X1_lastOf rfl rfl rfl hdX1_lastOf ⟨Nat.le_of_ble_eq_true rfl, Nat.le_of_ble_eq_true rfl⟩ (hP.sub [1, 2] rfl) (hD.sub [1, 2] (by decide) rfl) rfl rfl rfl rfl hl.1 rfl (Nat.le_of_ble_eq_true rfl) dX3_arc_31 ⟨Nat.zero_le _, Nat.zero_le _⟩) hP hD hS hA [1, 2] rfl (fun H locs hP hS => ?_)
        refine lv_goto (tgt := 46) hx hb dX3_arc_34 (by decide) ?_
        have he := Option.some.inj hf
        subst he
        exact kreti hx hb hr hlk hP hD hS dX3_arc_46
    · have hf := kIfF c6 hf
      refine lv_bipush (v := (-101 : Int32)) hx hb dX3_arc_18 (by decide) ?_
      have he := Option.some.inj hf
      subst he
      exact kreti hx hb hr hlk hP hD hS dX3_arc_20
set_option maxHeartbeats 4000000 in
set_option maxRecDepth 100000 in
theorem kX3_blocker (l : Launch) (D : va_G) (cI : ClassId) (fu : Nat) (a0 a1 a2 a3 a4 a5 a6 a7 a8 a9 a10 a11 : Nat) (R : (Nat → Int32)) (R2 : (Nat → Int32)) (HR : (Nat → Int32)) (HS : Int32) (HN : Int32) (TB : (Nat → Int32)) (LN : Int32) (PS : Int32) (TC : (Nat → Int32)) (TW : (Nat → Int32)) (TG : (Nat → Int32)) (CM : Int32) (x1 : Int32) (o : Int32) (hf : fX3_blocker fu R x1 = some o) : Ct l yX3_blocker wsX3_blocker { frames := 3, cells := 0, slots := 0, locals := 71 } D cI [.ref a0, .int x1] (wX3 cI a0 a1 a2 a3 a4 a5 a6 a7 a8 a9 a10 a11 R R2 HR HS HN TB LN PS TC TW TG CM) (wX3 cI a0 a1 a2 a3 a4 a5 a6 a7 a8 a9 a10 a11 R R2 HR HS HN TB LN PS TC TW TG CM) (some (.int o)) := by
  refine Ct.of (cc := cX3_blocker) (maxL := 2) (ret := (some .int)) (by decide) rfl (Nat.le_of_ble_eq_true rfl) ?_
  intro p e s m args below meth c A F hP hD hS ls hl
  obtain ⟨hx, hb, hml, hr, hown, hts, hlk, hK, hA⟩ := F
  have hown : s.vm.findClass RX3 = some m.cls := hown
  have hl : lv_has ls 2 [(0, .ref a0), (1, .int x1)] := hl
  have hinX3 : ∀ w ∈ wsX30, w ∈ wsX3_blocker := by decide +kernel
  have hfl10 := hts (.fieldLink RX3 10 "CraneGuard" "site" "LCraneGuard$Site;") (by decide +kernel)
  unfold fX3_blocker at hf
  refine lv_aload_n hx hb dX3_blocker_0 rfl (lv_at hl 0 rfl) ?_
  refine va_get (D := D) (ci := 3) (v := .ref a1) (C := RX3) (T := TX3) (N := 4) hx hb hts hinX3 hown hK.1 hP 0 rfl rfl 0 (by decide) hfl10 (fun _ h9 => h9) rfl dX3_blocker_1 ?_
  refine lv_iload_n hx hb dX3_blocker_4 rfl (lv_at hl 1 rfl) ?_
  obtain ⟨v1, h2, hf⟩ := kBind hf
  refine kgoR (krunV (wc := (wX1 cI a1 a2 R)) (As := [.int x1]) (rest := []) (ci := 1) hx hb hml hown hts hK (kX1_hasCrane l D cI a1 a2 R x1 v1 h2) gX3_blocker_X1_hasCrane rfl rfl rfl hdX1_hasCrane ⟨Nat.le_of_ble_eq_true rfl, Nat.le_of_ble_eq_true rfl⟩ (hP.sub [1, 2] rfl) (hD.sub [1, 2] (by decide) rfl) rfl rfl rfl rfl hl.1 rfl (Nat.le_of_ble_eq_true rfl) dX3_blocker_5 ⟨Nat.zero_le _, Nat.zero_le _⟩) hP hD hS hA [1, 2] rfl (fun H locs hP hS => ?_)
  refine kif_neb (tgt := 14) hx hb dX3_blocker_8 (by decide) (fun c3 => ?_) (fun c3 => ?_)
  · have hf := kIfT c3 hf
    refine lv_aload_n hx hb dX3_blocker_14 rfl (lv_at hl 0 rfl) ?_
    refine va_get (D := D) (ci := 3) (v := .ref a1) (C := RX3) (T := TX3) (N := 4) hx hb hts hinX3 hown hK.1 hP 0 rfl rfl 0 (by decide) hfl10 (fun _ h9 => h9) rfl dX3_blocker_15 ?_
    refine lv_iload_n hx hb dX3_blocker_18 rfl (lv_at hl 1 rfl) ?_
    obtain ⟨v4, h5, hf⟩ := kBind hf
    refine kgoR (krunV (wc := (wX1 cI a1 a2 R)) (As := [.int x1]) (rest := []) (ci := 1) hx hb hml hown hts hK (kX1_blockerOf l D cI fu a1 a2 R x1 v4 h5) gX3_blocker_X1_blockerOf rfl rfl rfl hdX1_blockerOf ⟨Nat.le_of_ble_eq_true rfl, Nat.le_of_ble_eq_true rfl⟩ (hP.sub [1, 2] rfl) (hD.sub [1, 2] (by decide) rfl) rfl rfl rfl rfl hl.1 rfl (Nat.le_of_ble_eq_true rfl) dX3_blocker_19 ⟨Nat.zero_le _, Nat.zero_le _⟩) hP hD hS hA [1, 2] rfl (fun H locs hP hS => ?_)
    have he := Option.some.inj hf
    subst he
    exact kreti hx hb hr hlk hP hD hS dX3_blocker_22
  · have hf := kIfF c3 hf
    refine lv_bipush (v := (-101 : Int32)) hx hb dX3_blocker_11 (by decide) ?_
    have he := Option.some.inj hf
    subst he
    exact kreti hx hb hr hlk hP hD hS dX3_blocker_13
