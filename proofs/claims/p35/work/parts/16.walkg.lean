set_option maxHeartbeats 4000000 in
set_option maxRecDepth 100000 in
theorem kX2_wayHere (l : Launch) (D : va_G) (cI : ClassId) (a0 a1 a2 a3 a4 : Nat) (TB : (Nat → Int32)) (LN : Int32) (PS : Int32) (TC : (Nat → Int32)) (TW : (Nat → Int32)) (TG : (Nat → Int32)) (CM : Int32) (o : Int32) (hf : fX2_wayHere TB LN PS = some o) : Ct l yX2_wayHere wsX2_wayHere { frames := 1, cells := 0, slots := 0, locals := 20 } D cI [.ref a0] (wX2 cI a0 a1 a2 a3 a4 TB LN PS TC TW TG CM) (wX2 cI a0 a1 a2 a3 a4 TB LN PS TC TW TG CM) (some (.int o)) := by
  refine Ct.of (cc := cX2_wayHere) (maxL := 1) (ret := (some .int)) (by decide) rfl (Nat.le_of_ble_eq_true rfl) ?_
  intro p e s m args below meth c A F hP hD hS ls hl
  obtain ⟨hx, hb, hml, hr, hown, hts, hlk, hK, hA⟩ := F
  have hown : s.vm.findClass RX2 = some m.cls := hown
  have hl : lv_has ls 1 [(0, .ref a0)] := hl
  unfold fX2_wayHere at hf
  refine lv_aload_n hx hb dX2_wayHere_0 rfl (lv_at hl 0 rfl) ?_
  obtain ⟨v6, h7, hf⟩ := kBind hf
  refine kgoR (krunV (wc := (wX2 cI a0 a1 a2 a3 a4 TB LN PS TC TW TG CM)) (As := []) (rest := []) (ci := 2) hx hb hml hown hts hK (kX2_byteHere l D cI a0 a1 a2 a3 a4 TB LN PS TC TW TG CM v6 h7) gX2_wayHere_X2_byteHere rfl rfl rfl hdX2_byteHere ⟨Nat.le_of_ble_eq_true rfl, Nat.le_of_ble_eq_true rfl⟩ hP hD rfl rfl rfl rfl hl.1 rfl (Nat.le_of_ble_eq_true rfl) dX2_wayHere_1 ⟨Nat.zero_le _, Nat.zero_le _⟩) hP hD hS hA [0, 1, 2, 3, 4] rfl (fun H locs hP hS => ?_)
  by_cases c8 : v6 = (60 : Int32)
  · have hf := kIfT c8 hf
    refine lv_lookup (off := 38) (tgt := 42) hx hb dX2_wayHere_4 (by decide) (by rw [c8]; decide) (by decide) ?_
    refine lv_iconst (v := (-1 : Int32)) hx hb dX2_wayHere_42 (by decide) ?_
    have he := Option.some.inj hf
    subst he
    exact kreti hx hb hr hlk hP hD hS dX2_wayHere_43
  have hf := kIfF c8 hf
  by_cases c9 : v6 = (62 : Int32)
  · have hf := kIfT c9 hf
    refine lv_lookup (off := 36) (tgt := 40) hx hb dX2_wayHere_4 (by decide) (by rw [c9]; decide) (by decide) ?_
    refine lv_iconst (v := (1 : Int32)) hx hb dX2_wayHere_40 (by decide) ?_
    have he := Option.some.inj hf
    subst he
    exact kreti hx hb hr hlk hP hD hS dX2_wayHere_41
  have hf := kIfF c9 hf
  by_cases c10 : v6 = (126 : Int32)
  · have hf := kIfT c10 hf
    refine lv_lookup (off := 40) (tgt := 44) hx hb dX2_wayHere_4 (by decide) (by rw [c10]; decide) (by decide) ?_
    refine lv_iconst (v := (0 : Int32)) hx hb dX2_wayHere_44 (by decide) ?_
    have he := Option.some.inj hf
    subst he
    exact kreti hx hb hr hlk hP hD hS dX2_wayHere_45
  have hf := kIfF c10 hf
  refine lv_lookup (off := 42) (tgt := 46) hx hb dX2_wayHere_4 (by decide) (k_look3 c8 c9 c10) (by decide) ?_
  refine lv_iconst (v := (2 : Int32)) hx hb dX2_wayHere_46 (by decide) ?_
  have he := Option.some.inj hf
  subst he
  exact kreti hx hb hr hlk hP hD hS dX2_wayHere_47
set_option maxHeartbeats 4000000 in
set_option maxRecDepth 100000 in
theorem kX2_readAngle (l : Launch) (D : va_G) (cI : ClassId) (fu : Nat) (a0 a1 a2 a3 a4 : Nat) (TB : (Nat → Int32)) (LN : Int32) (PS : Int32) (TC : (Nat → Int32)) (TW : (Nat → Int32)) (TG : (Nat → Int32)) (CM : Int32) (o : Int32 × Int32) (hf : fX2_readAngle fu TB LN PS = some o) : Ct l yX2_readAngle wsX2_readAngle { frames := 1, cells := 0, slots := 0, locals := 20 } D cI [.ref a0] (wX2 cI a0 a1 a2 a3 a4 TB LN PS TC TW TG CM) (wX2 cI a0 a1 a2 a3 a4 TB LN o.2 TC TW TG CM) (some (.int o.1)) := by
  refine Ct.of (cc := cX2_readAngle) (maxL := 3) (ret := (some .int)) (by decide) rfl (Nat.le_of_ble_eq_true rfl) ?_
  intro p e s m args below meth c A F hP hD hS ls hl
  obtain ⟨hx, hb, hml, hr, hown, hts, hlk, hK, hA⟩ := F
  have hown : s.vm.findClass RX2 = some m.cls := hown
  have hl : lv_has ls 3 [(0, .ref a0)] := hl
  have hinX2 : ∀ w ∈ wsX20, w ∈ wsX2_readAngle := by decide +kernel
  have hfl11 := hts (.fieldLink RX2 11 "CraneGuard$Text" "bytes" "[I") (by decide +kernel)
  have hfl15 := hts (.fieldLink RX2 15 "CraneGuard$Text" "length" "I") (by decide +kernel)
  have hfl19 := hts (.fieldLink RX2 19 "CraneGuard$Text" "position" "I") (by decide +kernel)
  unfold fX2_readAngle at hf
  refine lv_iconst (v := (0 : Int32)) hx hb dX2_readAngle_0 (by decide) ?_
  refine lv_istore_n (lv' := [(1, .int (0 : Int32)), (0, .ref a0)]) hx hb dX2_readAngle_1 rfl hl (by decide) rfl (fun ls hl => ?_)
  refine lv_iconst (v := (0 : Int32)) hx hb dX2_readAngle_2 (by decide) ?_
  refine lv_istore_n (lv' := [(2, .int (0 : Int32)), (1, .int (0 : Int32)), (0, .ref a0)]) hx hb dX2_readAngle_3 rfl hl (by decide) rfl (fun ls hl => ?_)
  have hl : lv_has ls 3 [(2, .int (0 : Int32)), (1, .int (0 : Int32)), (0, .ref a0)] := hl
  refine klp hf (fun t4 : Int32 × Int32 × Int32 => (wX2 cI a0 a1 a2 a3 a4 TB LN t4.1 TC TW TG CM)) 3 (fun t4 : Int32 × Int32 × Int32 => [(2, .int t4.2.2), (1, .int t4.2.1), (0, .ref a0)]) ?_ hP hD hS hl
  intro t4 x4_ hf hI1 hO1 H locs ls hP hD hS hl
  unfold fX2_readAngle_L4 at hf
  have hP : va_P D vwCl (wX2 cI a0 a1 a2 a3 a4 TB LN t4.1 TC TW TG CM) H := hP
  have hD : va_D A (wX2 cI a0 a1 a2 a3 a4 TB LN t4.1 TC TW TG CM) := hD
  have hl : lv_has ls 3 [(2, .int t4.2.2), (1, .int t4.2.1), (0, .ref a0)] := hl
  refine lv_aload_n hx hb dX2_readAngle_4 rfl (lv_at hl 2 rfl) ?_
  refine va_get (D := D) (ci := 2) (v := .int t4.1) (C := RX2) (T := TX2) (N := 7) hx hb hts hinX2 hown hK.1 hP 0 rfl rfl 2 (by decide) hfl19 (fun _ h9 => h9) rfl dX2_readAngle_5 ?_
  refine lv_aload_n hx hb dX2_readAngle_8 rfl (lv_at hl 2 rfl) ?_
  refine va_get (D := D) (ci := 2) (v := .int LN) (C := RX2) (T := TX2) (N := 7) hx hb hts hinX2 hown hK.1 hP 0 rfl rfl 1 (by decide) hfl15 (fun _ h9 => h9) rfl dX2_readAngle_9 ?_
  refine lv_icmp_ge (tgt := 86) hx hb dX2_readAngle_12 (by decide) (fun c61 => ?_) (fun c61 => ?_)
  · have hf := kIfT c61 hf
    refine lv_iload_n hx hb dX2_readAngle_86 rfl (lv_at hl 0 rfl) ?_
    refine lv_iconst (v := (1 : Int32)) hx hb dX2_readAngle_87 (by decide) ?_
    refine lv_icmp_lt (tgt := 107) hx hb dX2_readAngle_88 (by decide) (fun c62 => ?_) (fun c62 => ?_)
    · have hf := kIfT c62 hf
      refine lv_iconst (v := (-1 : Int32)) hx hb dX2_readAngle_107 (by decide) ?_
      have he := Option.some.inj hf
      have he := hO1 _ he.symm
      subst he
      exact kreti hx hb hr hlk hP hD hS dX2_readAngle_108
    · have hf := kIfF c62 hf
      refine lv_iload_n hx hb dX2_readAngle_91 rfl (lv_at hl 0 rfl) ?_
      refine lv_iconst (v := (2 : Int32)) hx hb dX2_readAngle_92 (by decide) ?_
      refine lv_icmp_gt (tgt := 107) hx hb dX2_readAngle_93 (by decide) (fun c63 => ?_) (fun c63 => ?_)
      · have hf := kIfT c63 hf
        refine lv_iconst (v := (-1 : Int32)) hx hb dX2_readAngle_107 (by decide) ?_
        have he := Option.some.inj hf
        have he := hO1 _ he.symm
        subst he
        exact kreti hx hb hr hlk hP hD hS dX2_readAngle_108
      · have hf := kIfF c63 hf
        refine lv_iload_n hx hb dX2_readAngle_96 rfl (lv_at hl 1 rfl) ?_
        obtain ⟨v64, h65, hf⟩ := kBind hf
        refine kgoR (krunSN (wc := ([] : va_W)) (As := [.int t4.2.1]) (rest := []) hx hb hml hown hts hK (kX3_isAngle l D cI t4.2.1 v64 h65) ggX2_readAngle_X3_isAngle hK.2.2.2.1 (hts (.initialized RX3) (by decide +kernel)) (hts (.static yX3_isAngle) (by decide +kernel)) rfl rfl rfl hdX3_isAngle ⟨Nat.le_of_ble_eq_true rfl, Nat.le_of_ble_eq_true rfl⟩ k_P0 (k_D0 A) rfl hl.1 rfl (Nat.le_of_ble_eq_true rfl) dX2_readAngle_97 ⟨Nat.zero_le _, Nat.zero_le _⟩) hP hD hS hA [] rfl (fun H locs hP hS => ?_)
        refine kif_eqb (tgt := 107) hx hb dX2_readAngle_100 (by decide) (fun c66 => ?_) (fun c66 => ?_)
        · have hf := kIfF c66 hf
          refine lv_iconst (v := (-1 : Int32)) hx hb dX2_readAngle_107 (by decide) ?_
          have he := Option.some.inj hf
          have he := hO1 _ he.symm
          subst he
          exact kreti hx hb hr hlk hP hD hS dX2_readAngle_108
        · have hf := kIfT c66 hf
          refine lv_iload_n hx hb dX2_readAngle_103 rfl (lv_at hl 1 rfl) ?_
          refine lv_goto (tgt := 108) hx hb dX2_readAngle_104 (by decide) ?_
          have he := Option.some.inj hf
          have he := hO1 _ he.symm
          subst he
          exact kreti hx hb hr hlk hP hD hS dX2_readAngle_108
  · have hf := kIfF c61 hf
    refine lv_aload_n hx hb dX2_readAngle_15 rfl (lv_at hl 2 rfl) ?_
    refine va_get (D := D) (ci := 2) (v := .ref a1) (C := RX2) (T := TX2) (N := 7) hx hb hts hinX2 hown hK.1 hP 0 rfl rfl 0 (by decide) hfl11 (fun _ h9 => h9) rfl dX2_readAngle_16 ?_
    refine lv_aload_n hx hb dX2_readAngle_19 rfl (lv_at hl 2 rfl) ?_
    refine va_get (D := D) (ci := 2) (v := .int t4.1) (C := RX2) (T := TX2) (N := 7) hx hb hts hinX2 hown hK.1 hP 0 rfl rfl 2 (by decide) hfl19 (fun _ h9 => h9) rfl dX2_readAngle_20 ?_
    obtain ⟨v67, h68, hf⟩ := kBind hf
    refine krd hx hb hK hP 1 rfl h68 dX2_readAngle_23 ?_
    refine lv_bipush (v := (48 : Int32)) hx hb dX2_readAngle_24 (by decide) ?_
    refine lv_icmp_lt (tgt := 86) hx hb dX2_readAngle_26 (by decide) (fun c69 => ?_) (fun c69 => ?_)
    · have hf := kIfT c69 hf
      refine lv_iload_n hx hb dX2_readAngle_86 rfl (lv_at hl 0 rfl) ?_
      refine lv_iconst (v := (1 : Int32)) hx hb dX2_readAngle_87 (by decide) ?_
      refine lv_icmp_lt (tgt := 107) hx hb dX2_readAngle_88 (by decide) (fun c70 => ?_) (fun c70 => ?_)
      · have hf := kIfT c70 hf
        refine lv_iconst (v := (-1 : Int32)) hx hb dX2_readAngle_107 (by decide) ?_
        have he := Option.some.inj hf
        have he := hO1 _ he.symm
        subst he
        exact kreti hx hb hr hlk hP hD hS dX2_readAngle_108
      · have hf := kIfF c70 hf
        refine lv_iload_n hx hb dX2_readAngle_91 rfl (lv_at hl 0 rfl) ?_
        refine lv_iconst (v := (2 : Int32)) hx hb dX2_readAngle_92 (by decide) ?_
        refine lv_icmp_gt (tgt := 107) hx hb dX2_readAngle_93 (by decide) (fun c71 => ?_) (fun c71 => ?_)
        · have hf := kIfT c71 hf
          refine lv_iconst (v := (-1 : Int32)) hx hb dX2_readAngle_107 (by decide) ?_
          have he := Option.some.inj hf
          have he := hO1 _ he.symm
          subst he
          exact kreti hx hb hr hlk hP hD hS dX2_readAngle_108
        · have hf := kIfF c71 hf
          refine lv_iload_n hx hb dX2_readAngle_96 rfl (lv_at hl 1 rfl) ?_
          obtain ⟨v72, h73, hf⟩ := kBind hf
          refine kgoR (krunSN (wc := ([] : va_W)) (As := [.int t4.2.1]) (rest := []) hx hb hml hown hts hK (kX3_isAngle l D cI t4.2.1 v72 h73) ggX2_readAngle_X3_isAngle hK.2.2.2.1 (hts (.initialized RX3) (by decide +kernel)) (hts (.static yX3_isAngle) (by decide +kernel)) rfl rfl rfl hdX3_isAngle ⟨Nat.le_of_ble_eq_true rfl, Nat.le_of_ble_eq_true rfl⟩ k_P0 (k_D0 A) rfl hl.1 rfl (Nat.le_of_ble_eq_true rfl) dX2_readAngle_97 ⟨Nat.zero_le _, Nat.zero_le _⟩) hP hD hS hA [] rfl (fun H locs hP hS => ?_)
          refine kif_eqb (tgt := 107) hx hb dX2_readAngle_100 (by decide) (fun c74 => ?_) (fun c74 => ?_)
          · have hf := kIfF c74 hf
            refine lv_iconst (v := (-1 : Int32)) hx hb dX2_readAngle_107 (by decide) ?_
            have he := Option.some.inj hf
            have he := hO1 _ he.symm
            subst he
            exact kreti hx hb hr hlk hP hD hS dX2_readAngle_108
          · have hf := kIfT c74 hf
            refine lv_iload_n hx hb dX2_readAngle_103 rfl (lv_at hl 1 rfl) ?_
            refine lv_goto (tgt := 108) hx hb dX2_readAngle_104 (by decide) ?_
            have he := Option.some.inj hf
            have he := hO1 _ he.symm
            subst he
            exact kreti hx hb hr hlk hP hD hS dX2_readAngle_108
    · have hf := kIfF c69 hf
      refine lv_aload_n hx hb dX2_readAngle_29 rfl (lv_at hl 2 rfl) ?_
      refine va_get (D := D) (ci := 2) (v := .ref a1) (C := RX2) (T := TX2) (N := 7) hx hb hts hinX2 hown hK.1 hP 0 rfl rfl 0 (by decide) hfl11 (fun _ h9 => h9) rfl dX2_readAngle_30 ?_
      refine lv_aload_n hx hb dX2_readAngle_33 rfl (lv_at hl 2 rfl) ?_
      refine va_get (D := D) (ci := 2) (v := .int t4.1) (C := RX2) (T := TX2) (N := 7) hx hb hts hinX2 hown hK.1 hP 0 rfl rfl 2 (by decide) hfl19 (fun _ h9 => h9) rfl dX2_readAngle_34 ?_
      obtain ⟨v75, h76, hf⟩ := kBind hf
      refine krd hx hb hK hP 1 rfl h76 dX2_readAngle_37 ?_
      refine lv_bipush (v := (57 : Int32)) hx hb dX2_readAngle_38 (by decide) ?_
      refine lv_icmp_gt (tgt := 86) hx hb dX2_readAngle_40 (by decide) (fun c77 => ?_) (fun c77 => ?_)
      · have hf := kIfT c77 hf
        refine lv_iload_n hx hb dX2_readAngle_86 rfl (lv_at hl 0 rfl) ?_
        refine lv_iconst (v := (1 : Int32)) hx hb dX2_readAngle_87 (by decide) ?_
        refine lv_icmp_lt (tgt := 107) hx hb dX2_readAngle_88 (by decide) (fun c78 => ?_) (fun c78 => ?_)
        · have hf := kIfT c78 hf
          refine lv_iconst (v := (-1 : Int32)) hx hb dX2_readAngle_107 (by decide) ?_
          have he := Option.some.inj hf
          have he := hO1 _ he.symm
          subst he
          exact kreti hx hb hr hlk hP hD hS dX2_readAngle_108
        · have hf := kIfF c78 hf
          refine lv_iload_n hx hb dX2_readAngle_91 rfl (lv_at hl 0 rfl) ?_
          refine lv_iconst (v := (2 : Int32)) hx hb dX2_readAngle_92 (by decide) ?_
          refine lv_icmp_gt (tgt := 107) hx hb dX2_readAngle_93 (by decide) (fun c79 => ?_) (fun c79 => ?_)
          · have hf := kIfT c79 hf
            refine lv_iconst (v := (-1 : Int32)) hx hb dX2_readAngle_107 (by decide) ?_
            have he := Option.some.inj hf
            have he := hO1 _ he.symm
            subst he
            exact kreti hx hb hr hlk hP hD hS dX2_readAngle_108
          · have hf := kIfF c79 hf
            refine lv_iload_n hx hb dX2_readAngle_96 rfl (lv_at hl 1 rfl) ?_
            obtain ⟨v80, h81, hf⟩ := kBind hf
            refine kgoR (krunSN (wc := ([] : va_W)) (As := [.int t4.2.1]) (rest := []) hx hb hml hown hts hK (kX3_isAngle l D cI t4.2.1 v80 h81) ggX2_readAngle_X3_isAngle hK.2.2.2.1 (hts (.initialized RX3) (by decide +kernel)) (hts (.static yX3_isAngle) (by decide +kernel)) rfl rfl rfl hdX3_isAngle ⟨Nat.le_of_ble_eq_true rfl, Nat.le_of_ble_eq_true rfl⟩ k_P0 (k_D0 A) rfl hl.1 rfl (Nat.le_of_ble_eq_true rfl) dX2_readAngle_97 ⟨Nat.zero_le _, Nat.zero_le _⟩) hP hD hS hA [] rfl (fun H locs hP hS => ?_)
            refine kif_eqb (tgt := 107) hx hb dX2_readAngle_100 (by decide) (fun c82 => ?_) (fun c82 => ?_)
            · have hf := kIfF c82 hf
              refine lv_iconst (v := (-1 : Int32)) hx hb dX2_readAngle_107 (by decide) ?_
              have he := Option.some.inj hf
              have he := hO1 _ he.symm
              subst he
              exact kreti hx hb hr hlk hP hD hS dX2_readAngle_108
            · have hf := kIfT c82 hf
              refine lv_iload_n hx hb dX2_readAngle_103 rfl (lv_at hl 1 rfl) ?_
              refine lv_goto (tgt := 108) hx hb dX2_readAngle_104 (by decide) ?_
              have he := Option.some.inj hf
              have he := hO1 _ he.symm
              subst he
              exact kreti hx hb hr hlk hP hD hS dX2_readAngle_108
      · have hf := kIfF c77 hf
        refine lv_iload_n hx hb dX2_readAngle_43 rfl (lv_at hl 0 rfl) ?_
        refine lv_iconst (v := (2 : Int32)) hx hb dX2_readAngle_44 (by decide) ?_
        refine lv_icmp_ge (tgt := 68) hx hb dX2_readAngle_45 (by decide) (fun c83 => ?_) (fun c83 => ?_)
        · have hf := kIfT c83 hf
          refine lv_iload_n hx hb dX2_readAngle_68 rfl (lv_at hl 1 rfl) ?_
          refine lv_istore_n (lv' := [(1, .int t4.2.1), (2, .int t4.2.2), (0, .ref a0)]) hx hb dX2_readAngle_69 rfl hl (by decide) rfl (fun ls hl => ?_)
          refine lv_iinc (v := t4.2.2 + (1 : Int32)) (lv' := [(2, .int (t4.2.2 + (1 : Int32))), (1, .int t4.2.1), (0, .ref a0)]) hx hb dX2_readAngle_70 hl (k := 1) rfl rfl (by decide) rfl (fun ls hl => ?_)
          refine lv_aload_n hx hb dX2_readAngle_73 rfl (lv_at hl 2 rfl) ?_
          refine lv_dup hx hb dX2_readAngle_74 rfl ?_
          refine va_get (D := D) (ci := 2) (v := .int t4.1) (C := RX2) (T := TX2) (N := 7) hx hb hts hinX2 hown hK.1 hP 0 rfl rfl 2 (by decide) hfl19 (fun _ h9 => h9) rfl dX2_readAngle_75 ?_
          refine lv_iconst (v := (1 : Int32)) hx hb dX2_readAngle_78 (by decide) ?_
          refine lv_iadd hx hb dX2_readAngle_79 ?_
          refine va_put (D := D) (ci := 2) (v := .int (t4.1 + (1 : Int32))) (ty := .int) (C := RX2) (T := TX2) (N := 7) hx hb hts hinX2 tyX2 tyX2_ok nmX2 hown hK.1 hP hD hS 0 rfl rfl 2 (by decide) hfl19 (fun _ h9 => h9) rfl (by decide +kernel) rfl rfl (Nat.le_of_ble_eq_true rfl) dX2_readAngle_80 (fun H locs hP hD hS => ?_)
          have hP : va_P D vwCl (wX2 cI a0 a1 a2 a3 a4 TB LN (t4.1 + (1 : Int32)) TC TW TG CM) H := hP
          have hD : va_D A (wX2 cI a0 a1 a2 a3 a4 TB LN (t4.1 + (1 : Int32)) TC TW TG CM) := hD
          refine lv_goto (tgt := 4) hx hb dX2_readAngle_83 (by decide) ?_
          obtain ⟨z84, hz84⟩ : ∃ z : Int32, z = t4.2.2 + (1 : Int32) := ⟨_, rfl⟩
          rw [← hz84] at hf
          obtain ⟨z85, hz85⟩ : ∃ z : Int32, z = t4.1 + (1 : Int32) := ⟨_, rfl⟩
          rw [← hz85] at hf
          have hP : va_P D vwCl (wX2 cI a0 a1 a2 a3 a4 TB LN z85 TC TW TG CM) H := by rw [hz85]; exact hP
          have hD : va_D A (wX2 cI a0 a1 a2 a3 a4 TB LN z85 TC TW TG CM) := by rw [hz85]; exact hD
          have he := (Option.some.inj hf).symm
          have hl : lv_has ls 3 [(2, .int z84), (1, .int t4.2.1), (0, .ref a0)] := by rw [hz84]; exact lv_sub hl [0, 1, 2] rfl
          exact hI1 _ he H locs ls hP hD hS hl
        · have hf := kIfF c83 hf
          refine lv_bipush (v := (10 : Int32)) hx hb dX2_readAngle_48 (by decide) ?_
          refine lv_iload_n hx hb dX2_readAngle_50 rfl (lv_at hl 1 rfl) ?_
          refine lv_imul hx hb dX2_readAngle_51 ?_
          refine lv_aload_n hx hb dX2_readAngle_52 rfl (lv_at hl 2 rfl) ?_
          refine va_get (D := D) (ci := 2) (v := .ref a1) (C := RX2) (T := TX2) (N := 7) hx hb hts hinX2 hown hK.1 hP 0 rfl rfl 0 (by decide) hfl11 (fun _ h9 => h9) rfl dX2_readAngle_53 ?_
          refine lv_aload_n hx hb dX2_readAngle_56 rfl (lv_at hl 2 rfl) ?_
          refine va_get (D := D) (ci := 2) (v := .int t4.1) (C := RX2) (T := TX2) (N := 7) hx hb hts hinX2 hown hK.1 hP 0 rfl rfl 2 (by decide) hfl19 (fun _ h9 => h9) rfl dX2_readAngle_57 ?_
          obtain ⟨v86, h87, hf⟩ := kBind hf
          refine krd hx hb hK hP 1 rfl h87 dX2_readAngle_60 ?_
          refine lv_iadd hx hb dX2_readAngle_61 ?_
          refine lv_bipush (v := (48 : Int32)) hx hb dX2_readAngle_62 (by decide) ?_
          refine lv_isub hx hb dX2_readAngle_64 ?_
          refine lv_goto (tgt := 69) hx hb dX2_readAngle_65 (by decide) ?_
          refine lv_istore_n (lv' := [(1, .int ((((10 : Int32) * t4.2.1) + v86) - (48 : Int32))), (2, .int t4.2.2), (0, .ref a0)]) hx hb dX2_readAngle_69 rfl hl (by decide) rfl (fun ls hl => ?_)
          refine lv_iinc (v := t4.2.2 + (1 : Int32)) (lv' := [(2, .int (t4.2.2 + (1 : Int32))), (1, .int ((((10 : Int32) * t4.2.1) + v86) - (48 : Int32))), (0, .ref a0)]) hx hb dX2_readAngle_70 hl (k := 1) rfl rfl (by decide) rfl (fun ls hl => ?_)
          refine lv_aload_n hx hb dX2_readAngle_73 rfl (lv_at hl 2 rfl) ?_
          refine lv_dup hx hb dX2_readAngle_74 rfl ?_
          refine va_get (D := D) (ci := 2) (v := .int t4.1) (C := RX2) (T := TX2) (N := 7) hx hb hts hinX2 hown hK.1 hP 0 rfl rfl 2 (by decide) hfl19 (fun _ h9 => h9) rfl dX2_readAngle_75 ?_
          refine lv_iconst (v := (1 : Int32)) hx hb dX2_readAngle_78 (by decide) ?_
          refine lv_iadd hx hb dX2_readAngle_79 ?_
          refine va_put (D := D) (ci := 2) (v := .int (t4.1 + (1 : Int32))) (ty := .int) (C := RX2) (T := TX2) (N := 7) hx hb hts hinX2 tyX2 tyX2_ok nmX2 hown hK.1 hP hD hS 0 rfl rfl 2 (by decide) hfl19 (fun _ h9 => h9) rfl (by decide +kernel) rfl rfl (Nat.le_of_ble_eq_true rfl) dX2_readAngle_80 (fun H locs hP hD hS => ?_)
          have hP : va_P D vwCl (wX2 cI a0 a1 a2 a3 a4 TB LN (t4.1 + (1 : Int32)) TC TW TG CM) H := hP
          have hD : va_D A (wX2 cI a0 a1 a2 a3 a4 TB LN (t4.1 + (1 : Int32)) TC TW TG CM) := hD
          refine lv_goto (tgt := 4) hx hb dX2_readAngle_83 (by decide) ?_
          obtain ⟨z88, hz88⟩ : ∃ z : Int32, z = (((10 : Int32) * t4.2.1) + v86) - (48 : Int32) := ⟨_, rfl⟩
          rw [← hz88] at hf
          obtain ⟨z89, hz89⟩ : ∃ z : Int32, z = t4.2.2 + (1 : Int32) := ⟨_, rfl⟩
          rw [← hz89] at hf
          obtain ⟨z90, hz90⟩ : ∃ z : Int32, z = t4.1 + (1 : Int32) := ⟨_, rfl⟩
          rw [← hz90] at hf
          have hP : va_P D vwCl (wX2 cI a0 a1 a2 a3 a4 TB LN z90 TC TW TG CM) H := by rw [hz90]; exact hP
          have hD : va_D A (wX2 cI a0 a1 a2 a3 a4 TB LN z90 TC TW TG CM) := by rw [hz90]; exact hD
          have he := (Option.some.inj hf).symm
          have hl : lv_has ls 3 [(2, .int z89), (1, .int z88), (0, .ref a0)] := by rw [hz88, hz89]; exact lv_sub hl [0, 1, 2] rfl
          exact hI1 _ he H locs ls hP hD hS hl
set_option maxHeartbeats 4000000 in
set_option maxRecDepth 100000 in
theorem kX2_readCommand (l : Launch) (D : va_G) (cI : ClassId) (fu : Nat) (a0 a1 a2 a3 a4 a5 a6 : Nat) (TB : (Nat → Int32)) (LN : Int32) (PS : Int32) (TC : (Nat → Int32)) (TW : (Nat → Int32)) (TG : (Nat → Int32)) (CM : Int32) (R : (Nat → Int32)) (x1 : Int32) (o : Int32 × Int32 × (Nat → Int32) × (Nat → Int32) × (Nat → Int32)) (hf : fX2_readCommand fu TB LN PS TC TW TG R x1 = some o) : Ct l yX2_readCommand wsX2_readCommand { frames := 2, cells := 0, slots := 0, locals := 42 } D cI [.ref a0, .int x1, .ref a5] (wX2_X1 cI a0 a1 a2 a3 a4 a5 a6 TB LN PS TC TW TG CM R) (wX2_X1 cI a0 a1 a2 a3 a4 a5 a6 TB LN o.2.1 o.2.2.1 o.2.2.2.1 o.2.2.2.2 CM R) (some (.int o.1)) := by
  refine Ct.of (cc := cX2_readCommand) (maxL := 7) (ret := (some .int)) (by decide) rfl (Nat.le_of_ble_eq_true rfl) ?_
  intro p e s m args below meth c A F hP hD hS ls hl
  obtain ⟨hx, hb, hml, hr, hown, hts, hlk, hK, hA⟩ := F
  have hown : s.vm.findClass RX2 = some m.cls := hown
  have hl : lv_has ls 7 [(0, .ref a0), (1, .int x1), (2, .ref a5)] := hl
  have hinX2 : ∀ w ∈ wsX20, w ∈ wsX2_readCommand := by decide +kernel
  have hfl19 := hts (.fieldLink RX2 19 "CraneGuard$Text" "position" "I") (by decide +kernel)
  have hfl22 := hts (.fieldLink RX2 22 "CraneGuard$Text" "craneOf" "[I") (by decide +kernel)
  have hfl25 := hts (.fieldLink RX2 25 "CraneGuard$Text" "wayOf" "[I") (by decide +kernel)
  have hfl28 := hts (.fieldLink RX2 28 "CraneGuard$Text" "targetOf" "[I") (by decide +kernel)
  unfold fX2_readCommand at hf
  refine lv_aload_n hx hb dX2_readCommand_0 rfl (lv_at hl 0 rfl) ?_
  obtain ⟨v27, h28, hf⟩ := kBind hf
  refine kgoJ (wr := [(a5, .inr (1, [.ref a6])), (a6, .inl (cI, 132, .inl R))]) (w2 := (wX2_X1 cI a0 a1 a2 a3 a4 a5 a6 TB LN v27 TC TW TG CM R)) (krunV (wc := (wX2 cI a0 a1 a2 a3 a4 TB LN PS TC TW TG CM)) (As := []) (rest := []) (ci := 2) hx hb hml hown hts hK (kX2_skipBlanks l D cI fu a0 a1 a2 a3 a4 TB LN PS TC TW TG CM v27 h28) gX2_readCommand_X2_skipBlanks rfl rfl rfl hdX2_skipBlanks ⟨Nat.le_of_ble_eq_true rfl, Nat.le_of_ble_eq_true rfl⟩ (hP.sub [0, 1, 2, 3, 4] rfl) (hD.sub [0, 1, 2, 3, 4] (by decide) rfl) rfl rfl rfl rfl hl.1 rfl (Nat.le_of_ble_eq_true rfl) dX2_readCommand_1 ⟨Nat.zero_le _, Nat.zero_le _⟩) hP hD hS hA [0, 1, 2, 3, 4] [5, 6] [2, 3, 4, 5, 6, 0, 1] rfl rfl (by decide) (by decide) (by decide) rfl (fun H locs hP hD hS => ?_)
  refine lv_aload_n hx hb dX2_readCommand_4 rfl (lv_at hl 0 rfl) ?_
  obtain ⟨v29, h30, hf⟩ := kBind hf
  refine kgoR (krunV (wc := (wX2 cI a0 a1 a2 a3 a4 TB LN v27 TC TW TG CM)) (As := []) (rest := []) (ci := 2) hx hb hml hown hts hK (kX2_byteHere l D cI a0 a1 a2 a3 a4 TB LN v27 TC TW TG CM v29 h30) gX2_readCommand_X2_byteHere rfl rfl rfl hdX2_byteHere ⟨Nat.le_of_ble_eq_true rfl, Nat.le_of_ble_eq_true rfl⟩ (hP.sub [0, 1, 2, 3, 4] rfl) (hD.sub [0, 1, 2, 3, 4] (by decide) rfl) rfl rfl rfl rfl hl.1 rfl (Nat.le_of_ble_eq_true rfl) dX2_readCommand_5 ⟨Nat.zero_le _, Nat.zero_le _⟩) hP hD hS hA [0, 1, 2, 3, 4] rfl (fun H locs hP hS => ?_)
  refine lv_bipush (v := (48 : Int32)) hx hb dX2_readCommand_8 (by decide) ?_
  refine lv_isub hx hb dX2_readCommand_10 ?_
  refine lv_istore_n (lv' := [(3, .int (v29 - (48 : Int32))), (0, .ref a0), (1, .int x1), (2, .ref a5)]) hx hb dX2_readCommand_11 rfl hl (by decide) rfl (fun ls hl => ?_)
  refine lv_aload_n hx hb dX2_readCommand_12 rfl (lv_at hl 3 rfl) ?_
  refine lv_iload_n hx hb dX2_readCommand_13 rfl (lv_at hl 0 rfl) ?_
  obtain ⟨v31, h32, hf⟩ := kBind hf
  refine kgoR (krunV (wc := (wX1 cI a5 a6 R)) (As := [.int (v29 - (48 : Int32))]) (rest := []) (ci := 1) hx hb hml hown hts hK (kX1_hasCrane l D cI a5 a6 R (v29 - (48 : Int32)) v31 h32) gX2_readCommand_X1_hasCrane rfl rfl rfl hdX1_hasCrane ⟨Nat.le_of_ble_eq_true rfl, Nat.le_of_ble_eq_true rfl⟩ (hP.sub [5, 6] rfl) (hD.sub [5, 6] (by decide) rfl) rfl rfl rfl rfl hl.1 rfl (Nat.le_of_ble_eq_true rfl) dX2_readCommand_14 ⟨Nat.zero_le _, Nat.zero_le _⟩) hP hD hS hA [5, 6] rfl (fun H locs hP hS => ?_)
  refine kif_eqb (tgt := 28) hx hb dX2_readCommand_17 (by decide) (fun c33 => ?_) (fun c33 => ?_)
  · have hf := kIfF c33 hf
    refine lv_aload_n hx hb dX2_readCommand_28 rfl (lv_at hl 1 rfl) ?_
    refine va_get (D := D) (ci := 2) (v := .int v27) (C := RX2) (T := TX2) (N := 7) hx hb hts hinX2 hown hK.1 hP 0 rfl rfl 2 (by decide) hfl19 (fun _ h9 => h9) rfl dX2_readCommand_29 ?_
    have he := Option.some.inj hf
    subst he
    exact kreti hx hb hr hlk hP hD hS dX2_readCommand_32
  · have hf := kIfT c33 hf
    refine lv_aload_n hx hb dX2_readCommand_20 rfl (lv_at hl 3 rfl) ?_
    refine lv_iload_n hx hb dX2_readCommand_21 rfl (lv_at hl 0 rfl) ?_
    obtain ⟨v34, h35, hf⟩ := kBind hf
    refine kgoR (krunV (wc := (wX1 cI a5 a6 R)) (As := [.int (v29 - (48 : Int32))]) (rest := []) (ci := 1) hx hb hml hown hts hK (kX1_canAim l D cI a5 a6 R (v29 - (48 : Int32)) v34 h35) gX2_readCommand_X1_canAim rfl rfl rfl hdX1_canAim ⟨Nat.le_of_ble_eq_true rfl, Nat.le_of_ble_eq_true rfl⟩ (hP.sub [5, 6] rfl) (hD.sub [5, 6] (by decide) rfl) rfl rfl rfl rfl hl.1 rfl (Nat.le_of_ble_eq_true rfl) dX2_readCommand_22 ⟨Nat.zero_le _, Nat.zero_le _⟩) hP hD hS hA [5, 6] rfl (fun H locs hP hS => ?_)
    refine kif_neb (tgt := 33) hx hb dX2_readCommand_25 (by decide) (fun c36 => ?_) (fun c36 => ?_)
    · have hf := kIfT c36 hf
      refine lv_aload_n hx hb dX2_readCommand_33 rfl (lv_at hl 1 rfl) ?_
      refine lv_dup hx hb dX2_readCommand_34 rfl ?_
      refine va_get (D := D) (ci := 2) (v := .int v27) (C := RX2) (T := TX2) (N := 7) hx hb hts hinX2 hown hK.1 hP 0 rfl rfl 2 (by decide) hfl19 (fun _ h9 => h9) rfl dX2_readCommand_35 ?_
      refine lv_iconst (v := (1 : Int32)) hx hb dX2_readCommand_38 (by decide) ?_
      refine lv_iadd hx hb dX2_readCommand_39 ?_
      refine va_put (D := D) (ci := 2) (v := .int (v27 + (1 : Int32))) (ty := .int) (C := RX2) (T := TX2) (N := 7) hx hb hts hinX2 tyX2 tyX2_ok nmX2 hown hK.1 hP hD hS 0 rfl rfl 2 (by decide) hfl19 (fun _ h9 => h9) rfl (by decide +kernel) rfl rfl (Nat.le_of_ble_eq_true rfl) dX2_readCommand_40 (fun H locs hP hD hS => ?_)
      have hP : va_P D vwCl (wX2_X1 cI a0 a1 a2 a3 a4 a5 a6 TB LN (v27 + (1 : Int32)) TC TW TG CM R) H := hP
      have hD : va_D A (wX2_X1 cI a0 a1 a2 a3 a4 a5 a6 TB LN (v27 + (1 : Int32)) TC TW TG CM R) := hD
      refine lv_aload_n hx hb dX2_readCommand_43 rfl (lv_at hl 1 rfl) ?_
      obtain ⟨v37, h38, hf⟩ := kBind hf
      refine kgoJ (wr := [(a5, .inr (1, [.ref a6])), (a6, .inl (cI, 132, .inl R))]) (w2 := (wX2_X1 cI a0 a1 a2 a3 a4 a5 a6 TB LN v37 TC TW TG CM R)) (krunV (wc := (wX2 cI a0 a1 a2 a3 a4 TB LN (v27 + (1 : Int32)) TC TW TG CM)) (As := []) (rest := []) (ci := 2) hx hb hml hown hts hK (kX2_skipBlanks l D cI fu a0 a1 a2 a3 a4 TB LN (v27 + (1 : Int32)) TC TW TG CM v37 h38) gX2_readCommand_X2_skipBlanks rfl rfl rfl hdX2_skipBlanks ⟨Nat.le_of_ble_eq_true rfl, Nat.le_of_ble_eq_true rfl⟩ (hP.sub [0, 1, 2, 3, 4] rfl) (hD.sub [0, 1, 2, 3, 4] (by decide) rfl) rfl rfl rfl rfl hl.1 rfl (Nat.le_of_ble_eq_true rfl) dX2_readCommand_44 ⟨Nat.zero_le _, Nat.zero_le _⟩) hP hD hS hA [0, 1, 2, 3, 4] [5, 6] [2, 3, 4, 5, 6, 0, 1] rfl rfl (by decide) (by decide) (by decide) rfl (fun H locs hP hD hS => ?_)
      refine lv_aload_n hx hb dX2_readCommand_47 rfl (lv_at hl 1 rfl) ?_
      obtain ⟨v39, h40, hf⟩ := kBind hf
      refine kgoR (krunV (wc := (wX2 cI a0 a1 a2 a3 a4 TB LN v37 TC TW TG CM)) (As := []) (rest := []) (ci := 2) hx hb hml hown hts hK (kX2_wayHere l D cI a0 a1 a2 a3 a4 TB LN v37 TC TW TG CM v39 h40) gX2_readCommand_X2_wayHere rfl rfl rfl hdX2_wayHere ⟨Nat.le_of_ble_eq_true rfl, Nat.le_of_ble_eq_true rfl⟩ (hP.sub [0, 1, 2, 3, 4] rfl) (hD.sub [0, 1, 2, 3, 4] (by decide) rfl) rfl rfl rfl rfl hl.1 rfl (Nat.le_of_ble_eq_true rfl) dX2_readCommand_48 ⟨Nat.zero_le _, Nat.zero_le _⟩) hP hD hS hA [0, 1, 2, 3, 4] rfl (fun H locs hP hS => ?_)
      refine lv_istore (lv' := [(4, .int v39), (3, .int (v29 - (48 : Int32))), (0, .ref a0), (1, .int x1), (2, .ref a5)]) hx hb dX2_readCommand_51 hl (by decide) rfl (fun ls hl => ?_)
      refine lv_iload hx hb dX2_readCommand_53 (lv_at hl 0 rfl) ?_
      refine lv_iconst (v := (2 : Int32)) hx hb dX2_readCommand_55 (by decide) ?_
      refine lv_icmp_ne (tgt := 64) hx hb dX2_readCommand_56 (by decide) (fun c41 => ?_) (fun c41 => ?_)
      · have hf := kIfF c41 hf
        refine lv_aload_n hx hb dX2_readCommand_64 rfl (lv_at hl 2 rfl) ?_
        refine lv_dup hx hb dX2_readCommand_65 rfl ?_
        refine va_get (D := D) (ci := 2) (v := .int v37) (C := RX2) (T := TX2) (N := 7) hx hb hts hinX2 hown hK.1 hP 0 rfl rfl 2 (by decide) hfl19 (fun _ h9 => h9) rfl dX2_readCommand_66 ?_
        refine lv_iconst (v := (1 : Int32)) hx hb dX2_readCommand_69 (by decide) ?_
        refine lv_iadd hx hb dX2_readCommand_70 ?_
        refine va_put (D := D) (ci := 2) (v := .int (v37 + (1 : Int32))) (ty := .int) (C := RX2) (T := TX2) (N := 7) hx hb hts hinX2 tyX2 tyX2_ok nmX2 hown hK.1 hP hD hS 0 rfl rfl 2 (by decide) hfl19 (fun _ h9 => h9) rfl (by decide +kernel) rfl rfl (Nat.le_of_ble_eq_true rfl) dX2_readCommand_71 (fun H locs hP hD hS => ?_)
        have hP : va_P D vwCl (wX2_X1 cI a0 a1 a2 a3 a4 a5 a6 TB LN (v37 + (1 : Int32)) TC TW TG CM R) H := hP
        have hD : va_D A (wX2_X1 cI a0 a1 a2 a3 a4 a5 a6 TB LN (v37 + (1 : Int32)) TC TW TG CM R) := hD
        refine lv_aload_n hx hb dX2_readCommand_74 rfl (lv_at hl 2 rfl) ?_
        obtain ⟨v42, h43, hf⟩ := kBind hf
        refine kgoJ (wr := [(a5, .inr (1, [.ref a6])), (a6, .inl (cI, 132, .inl R))]) (w2 := (wX2_X1 cI a0 a1 a2 a3 a4 a5 a6 TB LN v42 TC TW TG CM R)) (krunV (wc := (wX2 cI a0 a1 a2 a3 a4 TB LN (v37 + (1 : Int32)) TC TW TG CM)) (As := []) (rest := []) (ci := 2) hx hb hml hown hts hK (kX2_skipBlanks l D cI fu a0 a1 a2 a3 a4 TB LN (v37 + (1 : Int32)) TC TW TG CM v42 h43) gX2_readCommand_X2_skipBlanks rfl rfl rfl hdX2_skipBlanks ⟨Nat.le_of_ble_eq_true rfl, Nat.le_of_ble_eq_true rfl⟩ (hP.sub [0, 1, 2, 3, 4] rfl) (hD.sub [0, 1, 2, 3, 4] (by decide) rfl) rfl rfl rfl rfl hl.1 rfl (Nat.le_of_ble_eq_true rfl) dX2_readCommand_75 ⟨Nat.zero_le _, Nat.zero_le _⟩) hP hD hS hA [0, 1, 2, 3, 4] [5, 6] [2, 3, 4, 5, 6, 0, 1] rfl rfl (by decide) (by decide) (by decide) rfl (fun H locs hP hD hS => ?_)
        refine lv_aload_n hx hb dX2_readCommand_78 rfl (lv_at hl 2 rfl) ?_
        refine va_get (D := D) (ci := 2) (v := .int v42) (C := RX2) (T := TX2) (N := 7) hx hb hts hinX2 hown hK.1 hP 0 rfl rfl 2 (by decide) hfl19 (fun _ h9 => h9) rfl dX2_readCommand_79 ?_
        refine lv_istore (lv' := [(5, .int v42), (4, .int v39), (3, .int (v29 - (48 : Int32))), (0, .ref a0), (1, .int x1), (2, .ref a5)]) hx hb dX2_readCommand_82 hl (by decide) rfl (fun ls hl => ?_)
        refine lv_aload_n hx hb dX2_readCommand_84 rfl (lv_at hl 3 rfl) ?_
        obtain ⟨v44, h45, hf⟩ := kBind hf
        refine kgoJ (wr := [(a5, .inr (1, [.ref a6])), (a6, .inl (cI, 132, .inl R))]) (w2 := (wX2_X1 cI a0 a1 a2 a3 a4 a5 a6 TB LN v44.2 TC TW TG CM R)) (krunV (wc := (wX2 cI a0 a1 a2 a3 a4 TB LN v42 TC TW TG CM)) (As := []) (rest := []) (ci := 2) hx hb hml hown hts hK (kX2_readAngle l D cI fu a0 a1 a2 a3 a4 TB LN v42 TC TW TG CM v44 h45) gX2_readCommand_X2_readAngle rfl rfl rfl hdX2_readAngle ⟨Nat.le_of_ble_eq_true rfl, Nat.le_of_ble_eq_true rfl⟩ (hP.sub [0, 1, 2, 3, 4] rfl) (hD.sub [0, 1, 2, 3, 4] (by decide) rfl) rfl rfl rfl rfl hl.1 rfl (Nat.le_of_ble_eq_true rfl) dX2_readCommand_85 ⟨Nat.zero_le _, Nat.zero_le _⟩) hP hD hS hA [0, 1, 2, 3, 4] [5, 6] [2, 3, 4, 5, 6, 0, 1] rfl rfl (by decide) (by decide) (by decide) rfl (fun H locs hP hD hS => ?_)
        refine lv_istore (lv' := [(6, .int v44.1), (5, .int v42), (4, .int v39), (3, .int (v29 - (48 : Int32))), (0, .ref a0), (1, .int x1), (2, .ref a5)]) hx hb dX2_readCommand_88 hl (by decide) rfl (fun ls hl => ?_)
        refine lv_iload hx hb dX2_readCommand_90 (lv_at hl 0 rfl) ?_
        refine lv_iconst (v := (-1 : Int32)) hx hb dX2_readCommand_92 (by decide) ?_
        refine lv_icmp_ne (tgt := 99) hx hb dX2_readCommand_93 (by decide) (fun c46 => ?_) (fun c46 => ?_)
        · have hf := kIfF c46 hf
          refine lv_aload_n hx hb dX2_readCommand_99 rfl (lv_at hl 4 rfl) ?_
          refine va_get (D := D) (ci := 2) (v := .ref a2) (C := RX2) (T := TX2) (N := 7) hx hb hts hinX2 hown hK.1 hP 0 rfl rfl 3 (by decide) hfl22 (fun _ h9 => h9) rfl dX2_readCommand_100 ?_
          refine lv_iload_n hx hb dX2_readCommand_103 rfl (lv_at hl 5 rfl) ?_
          refine lv_iload_n hx hb dX2_readCommand_104 rfl (lv_at hl 3 rfl) ?_
          obtain ⟨v47, h48, hf⟩ := kBind hf
          refine kwr hx hb hK hP hD hS 2 rfl h48 (wX2_X1 cI a0 a1 a2 a3 a4 a5 a6 TB LN v44.2 v47 TW TG CM R) rfl dX2_readCommand_105 (fun H locs hP hD hS => ?_)
          refine lv_aload_n hx hb dX2_readCommand_106 rfl (lv_at hl 4 rfl) ?_
          refine va_get (D := D) (ci := 2) (v := .ref a3) (C := RX2) (T := TX2) (N := 7) hx hb hts hinX2 hown hK.1 hP 0 rfl rfl 4 (by decide) hfl25 (fun _ h9 => h9) rfl dX2_readCommand_107 ?_
          refine lv_iload_n hx hb dX2_readCommand_110 rfl (lv_at hl 5 rfl) ?_
          refine lv_iload hx hb dX2_readCommand_111 (lv_at hl 2 rfl) ?_
          obtain ⟨v49, h50, hf⟩ := kBind hf
          refine kwr hx hb hK hP hD hS 3 rfl h50 (wX2_X1 cI a0 a1 a2 a3 a4 a5 a6 TB LN v44.2 v47 v49 TG CM R) rfl dX2_readCommand_113 (fun H locs hP hD hS => ?_)
          refine lv_aload_n hx hb dX2_readCommand_114 rfl (lv_at hl 4 rfl) ?_
          refine va_get (D := D) (ci := 2) (v := .ref a4) (C := RX2) (T := TX2) (N := 7) hx hb hts hinX2 hown hK.1 hP 0 rfl rfl 5 (by decide) hfl28 (fun _ h9 => h9) rfl dX2_readCommand_115 ?_
          refine lv_iload_n hx hb dX2_readCommand_118 rfl (lv_at hl 5 rfl) ?_
          refine lv_iload hx hb dX2_readCommand_119 (lv_at hl 0 rfl) ?_
          obtain ⟨v51, h52, hf⟩ := kBind hf
          refine kwr hx hb hK hP hD hS 4 rfl h52 (wX2_X1 cI a0 a1 a2 a3 a4 a5 a6 TB LN v44.2 v47 v49 v51 CM R) rfl dX2_readCommand_121 (fun H locs hP hD hS => ?_)
          refine lv_bipush (v := (-100 : Int32)) hx hb dX2_readCommand_122 (by decide) ?_
          have he := Option.some.inj hf
          subst he
          exact kreti hx hb hr hlk hP hD hS dX2_readCommand_124
        · have hf := kIfT c46 hf
          refine lv_iload hx hb dX2_readCommand_96 (lv_at hl 1 rfl) ?_
          have he := Option.some.inj hf
          subst he
          exact kreti hx hb hr hlk hP hD hS dX2_readCommand_98
      · have hf := kIfT c41 hf
        refine lv_aload_n hx hb dX2_readCommand_59 rfl (lv_at hl 2 rfl) ?_
        refine va_get (D := D) (ci := 2) (v := .int v37) (C := RX2) (T := TX2) (N := 7) hx hb hts hinX2 hown hK.1 hP 0 rfl rfl 2 (by decide) hfl19 (fun _ h9 => h9) rfl dX2_readCommand_60 ?_
        have he := Option.some.inj hf
        subst he
        exact kreti hx hb hr hlk hP hD hS dX2_readCommand_63
    · have hf := kIfF c36 hf
      refine lv_aload_n hx hb dX2_readCommand_28 rfl (lv_at hl 1 rfl) ?_
      refine va_get (D := D) (ci := 2) (v := .int v27) (C := RX2) (T := TX2) (N := 7) hx hb hts hinX2 hown hK.1 hP 0 rfl rfl 2 (by decide) hfl19 (fun _ h9 => h9) rfl dX2_readCommand_29 ?_
      have he := Option.some.inj hf
      subst he
      exact kreti hx hb hr hlk hP hD hS dX2_readCommand_32
set_option maxHeartbeats 4000000 in
set_option maxRecDepth 100000 in
theorem kX2_read (l : Launch) (D : va_G) (cI : ClassId) (fu : Nat) (a0 a1 a2 a3 a4 a5 a6 : Nat) (TB : (Nat → Int32)) (LN : Int32) (PS : Int32) (TC : (Nat → Int32)) (TW : (Nat → Int32)) (TG : (Nat → Int32)) (CM : Int32) (R : (Nat → Int32)) (o : Int32 × Int32 × (Nat → Int32) × (Nat → Int32) × (Nat → Int32) × Int32) (hf : fX2_read fu TB LN TC TW TG R = some o) : Ct l yX2_read wsX2_read { frames := 3, cells := 0, slots := 0, locals := 68 } D cI [.ref a0, .ref a5] (wX2_X1 cI a0 a1 a2 a3 a4 a5 a6 TB LN PS TC TW TG CM R) (wX2_X1 cI a0 a1 a2 a3 a4 a5 a6 TB LN o.2.1 o.2.2.1 o.2.2.2.1 o.2.2.2.2.1 o.2.2.2.2.2 R) (some (.int o.1)) := by
  refine Ct.of (cc := cX2_read) (maxL := 4) (ret := (some .int)) (by decide) rfl (Nat.le_of_ble_eq_true rfl) ?_
  intro p e s m args below meth c A F hP hD hS ls hl
  obtain ⟨hx, hb, hml, hr, hown, hts, hlk, hK, hA⟩ := F
  have hown : s.vm.findClass RX2 = some m.cls := hown
  have hl : lv_has ls 4 [(0, .ref a0), (1, .ref a5)] := hl
  have hinX2 : ∀ w ∈ wsX20, w ∈ wsX2_read := by decide +kernel
  have hfl19 := hts (.fieldLink RX2 19 "CraneGuard$Text" "position" "I") (by decide +kernel)
  have hfl31 := hts (.fieldLink RX2 31 "CraneGuard$Text" "commands" "I") (by decide +kernel)
  unfold fX2_read at hf
  refine lv_aload_n hx hb dX2_read_0 rfl (lv_at hl 0 rfl) ?_
  refine lv_iconst (v := (0 : Int32)) hx hb dX2_read_1 (by decide) ?_
  refine va_put (D := D) (ci := 2) (v := .int (0 : Int32)) (ty := .int) (C := RX2) (T := TX2) (N := 7) hx hb hts hinX2 tyX2 tyX2_ok nmX2 hown hK.1 hP hD hS 0 rfl rfl 2 (by decide) hfl19 (fun _ h9 => h9) rfl (by decide +kernel) rfl rfl (Nat.le_of_ble_eq_true rfl) dX2_read_2 (fun H locs hP hD hS => ?_)
  have hP : va_P D vwCl (wX2_X1 cI a0 a1 a2 a3 a4 a5 a6 TB LN (0 : Int32) TC TW TG CM R) H := hP
  have hD : va_D A (wX2_X1 cI a0 a1 a2 a3 a4 a5 a6 TB LN (0 : Int32) TC TW TG CM R) := hD
  refine lv_aload_n hx hb dX2_read_5 rfl (lv_at hl 0 rfl) ?_
  refine lv_iconst (v := (0 : Int32)) hx hb dX2_read_6 (by decide) ?_
  refine va_put (D := D) (ci := 2) (v := .int (0 : Int32)) (ty := .int) (C := RX2) (T := TX2) (N := 7) hx hb hts hinX2 tyX2 tyX2_ok nmX2 hown hK.1 hP hD hS 0 rfl rfl 6 (by decide) hfl31 (fun _ h9 => h9) rfl (by decide +kernel) rfl rfl (Nat.le_of_ble_eq_true rfl) dX2_read_7 (fun H locs hP hD hS => ?_)
  have hP : va_P D vwCl (wX2_X1 cI a0 a1 a2 a3 a4 a5 a6 TB LN (0 : Int32) TC TW TG (0 : Int32) R) H := hP
  have hD : va_D A (wX2_X1 cI a0 a1 a2 a3 a4 a5 a6 TB LN (0 : Int32) TC TW TG (0 : Int32) R) := hD
  refine lv_iconst (v := (0 : Int32)) hx hb dX2_read_10 (by decide) ?_
  refine lv_istore_n (lv' := [(2, .int (0 : Int32)), (0, .ref a0), (1, .ref a5)]) hx hb dX2_read_11 rfl hl (by decide) rfl (fun ls hl => ?_)
  have hl : lv_has ls 4 [(2, .int (0 : Int32)), (0, .ref a0), (1, .ref a5)] := hl
  refine klp hf (fun t12 : Int32 × (Nat → Int32) × (Nat → Int32) × (Nat → Int32) × Int32 × Int32 => (wX2_X1 cI a0 a1 a2 a3 a4 a5 a6 TB LN t12.1 t12.2.1 t12.2.2.1 t12.2.2.2.1 t12.2.2.2.2.1 R)) 4 (fun t12 : Int32 × (Nat → Int32) × (Nat → Int32) × (Nat → Int32) × Int32 × Int32 => [(2, .int t12.2.2.2.2.2), (0, .ref a0), (1, .ref a5)]) ?_ hP hD hS hl
  intro t12 x12_ hf hI1 hO1 H locs ls hP hD hS hl
  unfold fX2_read_L12 at hf
  have hP : va_P D vwCl (wX2_X1 cI a0 a1 a2 a3 a4 a5 a6 TB LN t12.1 t12.2.1 t12.2.2.1 t12.2.2.2.1 t12.2.2.2.2.1 R) H := hP
  have hD : va_D A (wX2_X1 cI a0 a1 a2 a3 a4 a5 a6 TB LN t12.1 t12.2.1 t12.2.2.1 t12.2.2.2.1 t12.2.2.2.2.1 R) := hD
  have hl : lv_has ls 4 [(2, .int t12.2.2.2.2.2), (0, .ref a0), (1, .ref a5)] := hl
  refine lv_iload_n hx hb dX2_read_12 rfl (lv_at hl 0 rfl) ?_
  refine lv_bipush (v := (20 : Int32)) hx hb dX2_read_13 (by decide) ?_
  refine lv_icmp_ge (tgt := 85) hx hb dX2_read_15 (by decide) (fun c33 => ?_) (fun c33 => ?_)
  · have hf := kIfT c33 hf
    refine lv_aload_n hx hb dX2_read_85 rfl (lv_at hl 1 rfl) ?_
    refine va_get (D := D) (ci := 2) (v := .int t12.1) (C := RX2) (T := TX2) (N := 7) hx hb hts hinX2 hown hK.1 hP 0 rfl rfl 2 (by decide) hfl19 (fun _ h9 => h9) rfl dX2_read_86 ?_
    have he := Option.some.inj hf
    have he := hO1 _ he.symm
    subst he
    exact kreti hx hb hr hlk hP hD hS dX2_read_89
  · have hf := kIfF c33 hf
    refine lv_aload_n hx hb dX2_read_18 rfl (lv_at hl 1 rfl) ?_
    refine lv_iload_n hx hb dX2_read_19 rfl (lv_at hl 0 rfl) ?_
    refine lv_aload_n hx hb dX2_read_20 rfl (lv_at hl 2 rfl) ?_
    obtain ⟨v34, h35, hf⟩ := kBind hf
    refine kgoA (krunV (wc := (wX2_X1 cI a0 a1 a2 a3 a4 a5 a6 TB LN t12.1 t12.2.1 t12.2.2.1 t12.2.2.2.1 t12.2.2.2.2.1 R)) (As := [.int t12.2.2.2.2.2, .ref a5]) (rest := []) (ci := 2) hx hb hml hown hts hK (kX2_readCommand l D cI fu a0 a1 a2 a3 a4 a5 a6 TB LN t12.1 t12.2.1 t12.2.2.1 t12.2.2.2.1 t12.2.2.2.2.1 R t12.2.2.2.2.2 v34 h35) gX2_read_X2_readCommand rfl rfl rfl hdX2_readCommand ⟨Nat.le_of_ble_eq_true rfl, Nat.le_of_ble_eq_true rfl⟩ hP hD rfl rfl rfl rfl hl.1 rfl (Nat.le_of_ble_eq_true rfl) dX2_read_21 ⟨Nat.zero_le _, Nat.zero_le _⟩) hD hS hA (fun H locs hP hD hS => ?_)
    refine lv_istore_n (lv' := [(3, .int v34.1), (2, .int t12.2.2.2.2.2), (0, .ref a0), (1, .ref a5)]) hx hb dX2_read_24 rfl hl (by decide) rfl (fun ls hl => ?_)
    refine lv_iload_n hx hb dX2_read_25 rfl (lv_at hl 0 rfl) ?_
    refine lv_bipush (v := (-100 : Int32)) hx hb dX2_read_26 (by decide) ?_
    refine lv_icmp_eq (tgt := 33) hx hb dX2_read_28 (by decide) (fun c36 => ?_) (fun c36 => ?_)
    · have hf := kIfT c36 hf
      refine lv_aload_n hx hb dX2_read_33 rfl (lv_at hl 2 rfl) ?_
      refine lv_iload_n hx hb dX2_read_34 rfl (lv_at hl 1 rfl) ?_
      refine lv_iconst (v := (1 : Int32)) hx hb dX2_read_35 (by decide) ?_
      refine lv_iadd hx hb dX2_read_36 ?_
      refine va_put (D := D) (ci := 2) (v := .int (t12.2.2.2.2.2 + (1 : Int32))) (ty := .int) (C := RX2) (T := TX2) (N := 7) hx hb hts hinX2 tyX2 tyX2_ok nmX2 hown hK.1 hP hD hS 0 rfl rfl 6 (by decide) hfl31 (fun _ h9 => h9) rfl (by decide +kernel) rfl rfl (Nat.le_of_ble_eq_true rfl) dX2_read_37 (fun H locs hP hD hS => ?_)
      have hP : va_P D vwCl (wX2_X1 cI a0 a1 a2 a3 a4 a5 a6 TB LN v34.2.1 v34.2.2.1 v34.2.2.2.1 v34.2.2.2.2 (t12.2.2.2.2.2 + (1 : Int32)) R) H := hP
      have hD : va_D A (wX2_X1 cI a0 a1 a2 a3 a4 a5 a6 TB LN v34.2.1 v34.2.2.1 v34.2.2.2.1 v34.2.2.2.2 (t12.2.2.2.2.2 + (1 : Int32)) R) := hD
      refine lv_aload_n hx hb dX2_read_40 rfl (lv_at hl 2 rfl) ?_
      obtain ⟨v37, h38, hf⟩ := kBind hf
      refine kgoJ (wr := [(a5, .inr (1, [.ref a6])), (a6, .inl (cI, 132, .inl R))]) (w2 := (wX2_X1 cI a0 a1 a2 a3 a4 a5 a6 TB LN v37 v34.2.2.1 v34.2.2.2.1 v34.2.2.2.2 (t12.2.2.2.2.2 + (1 : Int32)) R)) (krunV (wc := (wX2 cI a0 a1 a2 a3 a4 TB LN v34.2.1 v34.2.2.1 v34.2.2.2.1 v34.2.2.2.2 (t12.2.2.2.2.2 + (1 : Int32)))) (As := []) (rest := []) (ci := 2) hx hb hml hown hts hK (kX2_skipBlanks l D cI fu a0 a1 a2 a3 a4 TB LN v34.2.1 v34.2.2.1 v34.2.2.2.1 v34.2.2.2.2 (t12.2.2.2.2.2 + (1 : Int32)) v37 h38) gX2_read_X2_skipBlanks rfl rfl rfl hdX2_skipBlanks ⟨Nat.le_of_ble_eq_true rfl, Nat.le_of_ble_eq_true rfl⟩ (hP.sub [0, 1, 2, 3, 4] rfl) (hD.sub [0, 1, 2, 3, 4] (by decide) rfl) rfl rfl rfl rfl hl.1 rfl (Nat.le_of_ble_eq_true rfl) dX2_read_41 ⟨Nat.zero_le _, Nat.zero_le _⟩) hP hD hS hA [0, 1, 2, 3, 4] [5, 6] [2, 3, 4, 5, 6, 0, 1] rfl rfl (by decide) (by decide) (by decide) rfl (fun H locs hP hD hS => ?_)
      refine lv_aload_n hx hb dX2_read_44 rfl (lv_at hl 2 rfl) ?_
      obtain ⟨v39, h40, hf⟩ := kBind hf
      refine kgoR (krunV (wc := (wX2 cI a0 a1 a2 a3 a4 TB LN v37 v34.2.2.1 v34.2.2.2.1 v34.2.2.2.2 (t12.2.2.2.2.2 + (1 : Int32)))) (As := []) (rest := []) (ci := 2) hx hb hml hown hts hK (kX2_byteHere l D cI a0 a1 a2 a3 a4 TB LN v37 v34.2.2.1 v34.2.2.2.1 v34.2.2.2.2 (t12.2.2.2.2.2 + (1 : Int32)) v39 h40) gX2_read_X2_byteHere rfl rfl rfl hdX2_byteHere ⟨Nat.le_of_ble_eq_true rfl, Nat.le_of_ble_eq_true rfl⟩ (hP.sub [0, 1, 2, 3, 4] rfl) (hD.sub [0, 1, 2, 3, 4] (by decide) rfl) rfl rfl rfl rfl hl.1 rfl (Nat.le_of_ble_eq_true rfl) dX2_read_45 ⟨Nat.zero_le _, Nat.zero_le _⟩) hP hD hS hA [0, 1, 2, 3, 4] rfl (fun H locs hP hS => ?_)
      refine lv_iconst (v := (-1 : Int32)) hx hb dX2_read_48 (by decide) ?_
      refine lv_icmp_ne (tgt := 55) hx hb dX2_read_49 (by decide) (fun c41 => ?_) (fun c41 => ?_)
      · have hf := kIfF c41 hf
        refine lv_aload_n hx hb dX2_read_55 rfl (lv_at hl 2 rfl) ?_
        obtain ⟨v42, h43, hf⟩ := kBind hf
        refine kgoR (krunV (wc := (wX2 cI a0 a1 a2 a3 a4 TB LN v37 v34.2.2.1 v34.2.2.2.1 v34.2.2.2.2 (t12.2.2.2.2.2 + (1 : Int32)))) (As := []) (rest := []) (ci := 2) hx hb hml hown hts hK (kX2_byteHere l D cI a0 a1 a2 a3 a4 TB LN v37 v34.2.2.1 v34.2.2.2.1 v34.2.2.2.2 (t12.2.2.2.2.2 + (1 : Int32)) v42 h43) gX2_read_X2_byteHere rfl rfl rfl hdX2_byteHere ⟨Nat.le_of_ble_eq_true rfl, Nat.le_of_ble_eq_true rfl⟩ (hP.sub [0, 1, 2, 3, 4] rfl) (hD.sub [0, 1, 2, 3, 4] (by decide) rfl) rfl rfl rfl rfl hl.1 rfl (Nat.le_of_ble_eq_true rfl) dX2_read_56 ⟨Nat.zero_le _, Nat.zero_le _⟩) hP hD hS hA [0, 1, 2, 3, 4] rfl (fun H locs hP hS => ?_)
        refine lv_bipush (v := (59 : Int32)) hx hb dX2_read_59 (by decide) ?_
        refine lv_icmp_eq (tgt := 69) hx hb dX2_read_61 (by decide) (fun c44 => ?_) (fun c44 => ?_)
        · have hf := kIfT c44 hf
          refine lv_aload_n hx hb dX2_read_69 rfl (lv_at hl 2 rfl) ?_
          refine lv_dup hx hb dX2_read_70 rfl ?_
          refine va_get (D := D) (ci := 2) (v := .int v37) (C := RX2) (T := TX2) (N := 7) hx hb hts hinX2 hown hK.1 hP 0 rfl rfl 2 (by decide) hfl19 (fun _ h9 => h9) rfl dX2_read_71 ?_
          refine lv_iconst (v := (1 : Int32)) hx hb dX2_read_74 (by decide) ?_
          refine lv_iadd hx hb dX2_read_75 ?_
          refine va_put (D := D) (ci := 2) (v := .int (v37 + (1 : Int32))) (ty := .int) (C := RX2) (T := TX2) (N := 7) hx hb hts hinX2 tyX2 tyX2_ok nmX2 hown hK.1 hP hD hS 0 rfl rfl 2 (by decide) hfl19 (fun _ h9 => h9) rfl (by decide +kernel) rfl rfl (Nat.le_of_ble_eq_true rfl) dX2_read_76 (fun H locs hP hD hS => ?_)
          have hP : va_P D vwCl (wX2_X1 cI a0 a1 a2 a3 a4 a5 a6 TB LN (v37 + (1 : Int32)) v34.2.2.1 v34.2.2.2.1 v34.2.2.2.2 (t12.2.2.2.2.2 + (1 : Int32)) R) H := hP
          have hD : va_D A (wX2_X1 cI a0 a1 a2 a3 a4 a5 a6 TB LN (v37 + (1 : Int32)) v34.2.2.1 v34.2.2.2.1 v34.2.2.2.2 (t12.2.2.2.2.2 + (1 : Int32)) R) := hD
          refine lv_iinc (v := t12.2.2.2.2.2 + (1 : Int32)) (lv' := [(2, .int (t12.2.2.2.2.2 + (1 : Int32))), (3, .int v34.1), (0, .ref a0), (1, .ref a5)]) hx hb dX2_read_79 hl (k := 1) rfl rfl (by decide) rfl (fun ls hl => ?_)
          refine lv_goto (tgt := 12) hx hb dX2_read_82 (by decide) ?_
          obtain ⟨z45, hz45⟩ : ∃ z : Int32, z = t12.2.2.2.2.2 + (1 : Int32) := ⟨_, rfl⟩
          rw [← hz45] at hf
          obtain ⟨z46, hz46⟩ : ∃ z : Int32, z = v37 + (1 : Int32) := ⟨_, rfl⟩
          rw [← hz46] at hf
          have hP : va_P D vwCl (wX2_X1 cI a0 a1 a2 a3 a4 a5 a6 TB LN z46 v34.2.2.1 v34.2.2.2.1 v34.2.2.2.2 z45 R) H := by rw [hz45, hz46]; exact hP
          have hD : va_D A (wX2_X1 cI a0 a1 a2 a3 a4 a5 a6 TB LN z46 v34.2.2.1 v34.2.2.2.1 v34.2.2.2.2 z45 R) := by rw [hz45, hz46]; exact hD
          have he := (Option.some.inj hf).symm
          have hl : lv_has ls 4 [(2, .int z45), (0, .ref a0), (1, .ref a5)] := by rw [hz45]; exact lv_sub hl [0, 2, 3] rfl
          exact hI1 _ he H locs ls hP hD hS hl
        · have hf := kIfF c44 hf
          refine lv_aload_n hx hb dX2_read_64 rfl (lv_at hl 2 rfl) ?_
          refine va_get (D := D) (ci := 2) (v := .int v37) (C := RX2) (T := TX2) (N := 7) hx hb hts hinX2 hown hK.1 hP 0 rfl rfl 2 (by decide) hfl19 (fun _ h9 => h9) rfl dX2_read_65 ?_
          obtain ⟨z47, hz47⟩ : ∃ z : Int32, z = t12.2.2.2.2.2 + (1 : Int32) := ⟨_, rfl⟩
          rw [← hz47] at hf
          have hP : va_P D vwCl (wX2_X1 cI a0 a1 a2 a3 a4 a5 a6 TB LN v37 v34.2.2.1 v34.2.2.2.1 v34.2.2.2.2 z47 R) H := by rw [hz47]; exact hP
          have hD : va_D A (wX2_X1 cI a0 a1 a2 a3 a4 a5 a6 TB LN v37 v34.2.2.1 v34.2.2.2.1 v34.2.2.2.2 z47 R) := by rw [hz47]; exact hD
          have he := Option.some.inj hf
          have he := hO1 _ he.symm
          subst he
          exact kreti hx hb hr hlk hP hD hS dX2_read_68
      · have hf := kIfT c41 hf
        refine lv_bipush (v := (-100 : Int32)) hx hb dX2_read_52 (by decide) ?_
        obtain ⟨z48, hz48⟩ : ∃ z : Int32, z = t12.2.2.2.2.2 + (1 : Int32) := ⟨_, rfl⟩
        rw [← hz48] at hf
        have hP : va_P D vwCl (wX2_X1 cI a0 a1 a2 a3 a4 a5 a6 TB LN v37 v34.2.2.1 v34.2.2.2.1 v34.2.2.2.2 z48 R) H := by rw [hz48]; exact hP
        have hD : va_D A (wX2_X1 cI a0 a1 a2 a3 a4 a5 a6 TB LN v37 v34.2.2.1 v34.2.2.2.1 v34.2.2.2.2 z48 R) := by rw [hz48]; exact hD
        have he := Option.some.inj hf
        have he := hO1 _ he.symm
        subst he
        exact kreti hx hb hr hlk hP hD hS dX2_read_54
    · have hf := kIfF c36 hf
      refine lv_iload_n hx hb dX2_read_31 rfl (lv_at hl 0 rfl) ?_
      have he := Option.some.inj hf
      have he := hO1 _ he.symm
      subst he
      exact kreti hx hb hr hlk hP hD hS dX2_read_32
set_option maxHeartbeats 4000000 in
set_option maxRecDepth 100000 in
theorem kX3_addCrane (l : Launch) (D : va_G) (cI : ClassId) (a0 a1 a2 a3 a4 a5 a6 a7 a8 a9 a10 a11 : Nat) (R : (Nat → Int32)) (R2 : (Nat → Int32)) (HR : (Nat → Int32)) (HS : Int32) (HN : Int32) (TB : (Nat → Int32)) (LN : Int32) (PS : Int32) (TC : (Nat → Int32)) (TW : (Nat → Int32)) (TG : (Nat → Int32)) (CM : Int32) (x1 : Int32) (x2 : Int32) (x3 : Int32) (o : Int32 × (Nat → Int32) × (Nat → Int32) × Int32 × Int32) (hf : fX3_addCrane R HR HS HN x1 x2 x3 = some o) : Ct l yX3_addCrane wsX3_addCrane { frames := 3, cells := 0, slots := 0, locals := 61 } D cI [.ref a0, .int x1, .int x2, .int x3] (wX3 cI a0 a1 a2 a3 a4 a5 a6 a7 a8 a9 a10 a11 R R2 HR HS HN TB LN PS TC TW TG CM) (wX3 cI a0 a1 a2 a3 a4 a5 a6 a7 a8 a9 a10 a11 o.2.1 R2 o.2.2.1 o.2.2.2.1 o.2.2.2.2 TB LN PS TC TW TG CM) (some (.int o.1)) := by
  refine Ct.of (cc := cX3_addCrane) (maxL := 4) (ret := (some .int)) (by decide) rfl (Nat.le_of_ble_eq_true rfl) ?_
  intro p e s m args below meth c A F hP hD hS ls hl
  obtain ⟨hx, hb, hml, hr, hown, hts, hlk, hK, hA⟩ := F
  have hown : s.vm.findClass RX3 = some m.cls := hown
  have hl : lv_has ls 4 [(0, .ref a0), (1, .int x1), (2, .int x2), (3, .int x3)] := hl
  have hinX3 : ∀ w ∈ wsX30, w ∈ wsX3_addCrane := by decide +kernel
  have hfl10 := hts (.fieldLink RX3 10 "CraneGuard" "site" "LCraneGuard$Site;") (by decide +kernel)
  have hfl22 := hts (.fieldLink RX3 22 "CraneGuard" "history" "LCraneGuard$History;") (by decide +kernel)
  unfold fX3_addCrane at hf
  refine lv_iload_n hx hb dX3_addCrane_0 rfl (lv_at hl 1 rfl) ?_
  obtain ⟨v16, h17, hf⟩ := kBind hf
  refine kgoR (krunS (wc := ([] : va_W)) (As := [.int x1]) (rest := []) hx hb hml hown hts hK (kX3_isAngle l D cI x1 v16 h17) gX3_addCrane_X3_isAngle rfl rfl rfl hdX3_isAngle ⟨Nat.le_of_ble_eq_true rfl, Nat.le_of_ble_eq_true rfl⟩ k_P0 (k_D0 A) rfl hl.1 rfl (Nat.le_of_ble_eq_true rfl) dX3_addCrane_1 ⟨Nat.zero_le _, Nat.zero_le _⟩) hP hD hS hA [] rfl (fun H locs hP hS => ?_)
  refine kif_eqb (tgt := 24) hx hb dX3_addCrane_4 (by decide) (fun c18 => ?_) (fun c18 => ?_)
  · have hf := kIfF c18 hf
    refine lv_bipush (v := (-102 : Int32)) hx hb dX3_addCrane_24 (by decide) ?_
    have he := Option.some.inj hf
    subst he
    exact kreti hx hb hr hlk hP hD hS dX3_addCrane_26
  · have hf := kIfT c18 hf
    refine lv_iload_n hx hb dX3_addCrane_7 rfl (lv_at hl 2 rfl) ?_
    refine lv_iconst (v := (1 : Int32)) hx hb dX3_addCrane_8 (by decide) ?_
    refine lv_icmp_lt (tgt := 24) hx hb dX3_addCrane_9 (by decide) (fun c19 => ?_) (fun c19 => ?_)
    · have hf := kIfT c19 hf
      refine lv_bipush (v := (-102 : Int32)) hx hb dX3_addCrane_24 (by decide) ?_
      have he := Option.some.inj hf
      subst he
      exact kreti hx hb hr hlk hP hD hS dX3_addCrane_26
    · have hf := kIfF c19 hf
      refine lv_iload_n hx hb dX3_addCrane_12 rfl (lv_at hl 2 rfl) ?_
      refine lv_iconst (v := (5 : Int32)) hx hb dX3_addCrane_13 (by decide) ?_
      refine lv_icmp_gt (tgt := 24) hx hb dX3_addCrane_14 (by decide) (fun c20 => ?_) (fun c20 => ?_)
      · have hf := kIfT c20 hf
        refine lv_bipush (v := (-102 : Int32)) hx hb dX3_addCrane_24 (by decide) ?_
        have he := Option.some.inj hf
        subst he
        exact kreti hx hb hr hlk hP hD hS dX3_addCrane_26
      · have hf := kIfF c20 hf
        refine lv_iload_n hx hb dX3_addCrane_17 rfl (lv_at hl 3 rfl) ?_
        obtain ⟨v21, h22, hf⟩ := kBind hf
        refine kgoR (krunS (wc := ([] : va_W)) (As := [.int x3]) (rest := []) hx hb hml hown hts hK (kX3_isPriority l D cI x3 v21 h22) gX3_addCrane_X3_isPriority rfl rfl rfl hdX3_isPriority ⟨Nat.le_of_ble_eq_true rfl, Nat.le_of_ble_eq_true rfl⟩ k_P0 (k_D0 A) rfl hl.1 rfl (Nat.le_of_ble_eq_true rfl) dX3_addCrane_18 ⟨Nat.zero_le _, Nat.zero_le _⟩) hP hD hS hA [] rfl (fun H locs hP hS => ?_)
        refine kif_neb (tgt := 27) hx hb dX3_addCrane_21 (by decide) (fun c23 => ?_) (fun c23 => ?_)
        · have hf := kIfT c23 hf
          refine lv_aload_n hx hb dX3_addCrane_27 rfl (lv_at hl 0 rfl) ?_
          refine va_get (D := D) (ci := 3) (v := .ref a1) (C := RX3) (T := TX3) (N := 4) hx hb hts hinX3 hown hK.1 hP 0 rfl rfl 0 (by decide) hfl10 (fun _ h9 => h9) rfl dX3_addCrane_28 ?_
          obtain ⟨v24, h25, hf⟩ := kBind hf
          refine kgoR (krunV (wc := (wX1 cI a1 a2 R)) (As := []) (rest := []) (ci := 1) hx hb hml hown hts hK (kX1_craneCount l D cI a1 a2 R v24 h25) gX3_addCrane_X1_craneCount rfl rfl rfl hdX1_craneCount ⟨Nat.le_of_ble_eq_true rfl, Nat.le_of_ble_eq_true rfl⟩ (hP.sub [1, 2] rfl) (hD.sub [1, 2] (by decide) rfl) rfl rfl rfl rfl hl.1 rfl (Nat.le_of_ble_eq_true rfl) dX3_addCrane_31 ⟨Nat.zero_le _, Nat.zero_le _⟩) hP hD hS hA [1, 2] rfl (fun H locs hP hS => ?_)
          refine lv_iconst (v := (4 : Int32)) hx hb dX3_addCrane_34 (by decide) ?_
          refine lv_icmp_lt (tgt := 41) hx hb dX3_addCrane_35 (by decide) (fun c26 => ?_) (fun c26 => ?_)
          · have hf := kIfT c26 hf
            refine lv_aload_n hx hb dX3_addCrane_41 rfl (lv_at hl 0 rfl) ?_
            refine va_get (D := D) (ci := 3) (v := .ref a5) (C := RX3) (T := TX3) (N := 4) hx hb hts hinX3 hown hK.1 hP 0 rfl rfl 2 (by decide) hfl22 (fun _ h9 => h9) rfl dX3_addCrane_42 ?_
            refine lv_aload_n hx hb dX3_addCrane_45 rfl (lv_at hl 0 rfl) ?_
            refine va_get (D := D) (ci := 3) (v := .ref a1) (C := RX3) (T := TX3) (N := 4) hx hb hts hinX3 hown hK.1 hP 0 rfl rfl 0 (by decide) hfl10 (fun _ h9 => h9) rfl dX3_addCrane_46 ?_
            obtain ⟨v27, h28, hf⟩ := kBind hf
            refine kgoJ (wr := [(a0, .inr (3, [.ref a1, .ref a3, .ref a5, .ref a7])), (a3, .inr (1, [.ref a4])), (a4, .inl (cI, 132, .inl R2)), (a7, .inr (2, [.ref a8, .int LN, .int PS, .ref a9, .ref a10, .ref a11, .int CM])), (a8, .inl (cI, 80, .inl TB)), (a9, .inl (cI, 20, .inl TC)), (a10, .inl (cI, 20, .inl TW)), (a11, .inl (cI, 20, .inl TG))]) (w2 := (wX3 cI a0 a1 a2 a3 a4 a5 a6 a7 a8 a9 a10 a11 R R2 v27.1 v27.2.1 v27.2.2 TB LN PS TC TW TG CM)) (krunV (wc := (wX0_X1 cI a5 a6 a1 a2 HR HS HN R)) (As := [.ref a1]) (rest := []) (ci := 0) hx hb hml hown hts hK (kX0_keep l D cI a5 a6 a1 a2 HR HS HN R v27 h28) gX3_addCrane_X0_keep rfl rfl rfl hdX0_keep ⟨Nat.le_of_ble_eq_true rfl, Nat.le_of_ble_eq_true rfl⟩ (hP.sub [5, 6, 1, 2] rfl) (hD.sub [5, 6, 1, 2] (by decide) rfl) rfl rfl rfl rfl hl.1 rfl (Nat.le_of_ble_eq_true rfl) dX3_addCrane_49 ⟨Nat.zero_le _, Nat.zero_le _⟩) hP hD hS hA [5, 6, 1, 2] [0, 3, 4, 7, 8, 9, 10, 11] [0, 10, 11, 1, 2, 8, 9, 3, 4, 5, 6, 7] rfl rfl (by decide) (by decide) (by decide) rfl (fun H locs hP hD hS => ?_)
            refine lv_aload_n hx hb dX3_addCrane_52 rfl (lv_at hl 0 rfl) ?_
            refine va_get (D := D) (ci := 3) (v := .ref a1) (C := RX3) (T := TX3) (N := 4) hx hb hts hinX3 hown hK.1 hP 0 rfl rfl 0 (by decide) hfl10 (fun _ h9 => h9) rfl dX3_addCrane_53 ?_
            refine lv_iload_n hx hb dX3_addCrane_56 rfl (lv_at hl 1 rfl) ?_
            refine lv_iload_n hx hb dX3_addCrane_57 rfl (lv_at hl 2 rfl) ?_
            refine lv_iload_n hx hb dX3_addCrane_58 rfl (lv_at hl 3 rfl) ?_
            obtain ⟨v29, h30, hf⟩ := kBind hf
            refine kgoJ (wr := [(a0, .inr (3, [.ref a1, .ref a3, .ref a5, .ref a7])), (a3, .inr (1, [.ref a4])), (a4, .inl (cI, 132, .inl R2)), (a5, .inr (0, [.ref a6, .int v27.2.1, .int v27.2.2])), (a6, .inl (cI, 660, .inl v27.1)), (a7, .inr (2, [.ref a8, .int LN, .int PS, .ref a9, .ref a10, .ref a11, .int CM])), (a8, .inl (cI, 80, .inl TB)), (a9, .inl (cI, 20, .inl TC)), (a10, .inl (cI, 20, .inl TW)), (a11, .inl (cI, 20, .inl TG))]) (w2 := (wX3 cI a0 a1 a2 a3 a4 a5 a6 a7 a8 a9 a10 a11 v29.2 R2 v27.1 v27.2.1 v27.2.2 TB LN PS TC TW TG CM)) (krunV (wc := (wX1 cI a1 a2 R)) (As := [.int x1, .int x2, .int x3]) (rest := []) (ci := 1) hx hb hml hown hts hK (kX1_putCrane l D cI a1 a2 R x1 x2 x3 v29 h30) gX3_addCrane_X1_putCrane rfl rfl rfl hdX1_putCrane ⟨Nat.le_of_ble_eq_true rfl, Nat.le_of_ble_eq_true rfl⟩ (hP.sub [1, 2] rfl) (hD.sub [1, 2] (by decide) rfl) rfl rfl rfl rfl hl.1 rfl (Nat.le_of_ble_eq_true rfl) dX3_addCrane_59 ⟨Nat.zero_le _, Nat.zero_le _⟩) hP hD hS hA [1, 2] [0, 3, 4, 5, 6, 7, 8, 9, 10, 11] [0, 10, 11, 1, 2, 3, 4, 5, 6, 7, 8, 9] rfl rfl (by decide) (by decide) (by decide) rfl (fun H locs hP hD hS => ?_)
            have he := Option.some.inj hf
            subst he
            exact kreti hx hb hr hlk hP hD hS dX3_addCrane_62
          · have hf := kIfF c26 hf
            refine lv_bipush (v := (-104 : Int32)) hx hb dX3_addCrane_38 (by decide) ?_
            have he := Option.some.inj hf
            subst he
            exact kreti hx hb hr hlk hP hD hS dX3_addCrane_40
        · have hf := kIfF c23 hf
          refine lv_bipush (v := (-102 : Int32)) hx hb dX3_addCrane_24 (by decide) ?_
          have he := Option.some.inj hf
          subst he
          exact kreti hx hb hr hlk hP hD hS dX3_addCrane_26
set_option maxHeartbeats 4000000 in
set_option maxRecDepth 100000 in
theorem kX3_command (l : Launch) (D : va_G) (cI : ClassId) (fu : Nat) (a0 a1 a2 a3 a4 a5 a6 a7 a8 a9 a10 a11 : Nat) (R : (Nat → Int32)) (R2 : (Nat → Int32)) (HR : (Nat → Int32)) (HS : Int32) (HN : Int32) (TB : (Nat → Int32)) (LN : Int32) (PS : Int32) (TC : (Nat → Int32)) (TW : (Nat → Int32)) (TG : (Nat → Int32)) (CM : Int32) (o : Int32 × (Nat → Int32) × (Nat → Int32) × Int32 × Int32 × Int32 × (Nat → Int32) × (Nat → Int32) × (Nat → Int32) × Int32) (hf : fX3_command fu R HR HS HN TB LN TC TW TG = some o) : Ct l yX3_command wsX3_command { frames := 4, cells := 0, slots := 0, locals := 91 } D cI [.ref a0] (wX3 cI a0 a1 a2 a3 a4 a5 a6 a7 a8 a9 a10 a11 R R2 HR HS HN TB LN PS TC TW TG CM) (wX3 cI a0 a1 a2 a3 a4 a5 a6 a7 a8 a9 a10 a11 o.2.1 R2 o.2.2.1 o.2.2.2.1 o.2.2.2.2.1 TB LN o.2.2.2.2.2.1 o.2.2.2.2.2.2.1 o.2.2.2.2.2.2.2.1 o.2.2.2.2.2.2.2.2.1 o.2.2.2.2.2.2.2.2.2) (some (.int o.1)) := by
  refine Ct.of (cc := cX3_command) (maxL := 1) (ret := (some .int)) (by decide) rfl (Nat.le_of_ble_eq_true rfl) ?_
  intro p e s m args below meth c A F hP hD hS ls hl
  obtain ⟨hx, hb, hml, hr, hown, hts, hlk, hK, hA⟩ := F
  have hown : s.vm.findClass RX3 = some m.cls := hown
  have hl : lv_has ls 1 [(0, .ref a0)] := hl
  have hinX3 : ∀ w ∈ wsX30, w ∈ wsX3_command := by decide +kernel
  have hfl10 := hts (.fieldLink RX3 10 "CraneGuard" "site" "LCraneGuard$Site;") (by decide +kernel)
  have hfl22 := hts (.fieldLink RX3 22 "CraneGuard" "history" "LCraneGuard$History;") (by decide +kernel)
  have hfl29 := hts (.fieldLink RX3 29 "CraneGuard" "text" "LCraneGuard$Text;") (by decide +kernel)
  unfold fX3_command at hf
  refine lv_aload_n hx hb dX3_command_0 rfl (lv_at hl 0 rfl) ?_
  refine va_get (D := D) (ci := 3) (v := .ref a7) (C := RX3) (T := TX3) (N := 4) hx hb hts hinX3 hown hK.1 hP 0 rfl rfl 3 (by decide) hfl29 (fun _ h9 => h9) rfl dX3_command_1 ?_
  refine lv_aload_n hx hb dX3_command_4 rfl (lv_at hl 0 rfl) ?_
  refine va_get (D := D) (ci := 3) (v := .ref a1) (C := RX3) (T := TX3) (N := 4) hx hb hts hinX3 hown hK.1 hP 0 rfl rfl 0 (by decide) hfl10 (fun _ h9 => h9) rfl dX3_command_5 ?_
  obtain ⟨v12, h13, hf⟩ := kBind hf
  refine kgoJ (wr := [(a0, .inr (3, [.ref a1, .ref a3, .ref a5, .ref a7])), (a3, .inr (1, [.ref a4])), (a4, .inl (cI, 132, .inl R2)), (a5, .inr (0, [.ref a6, .int HS, .int HN])), (a6, .inl (cI, 660, .inl HR))]) (w2 := (wX3 cI a0 a1 a2 a3 a4 a5 a6 a7 a8 a9 a10 a11 R R2 HR HS HN TB LN v12.2.1 v12.2.2.1 v12.2.2.2.1 v12.2.2.2.2.1 v12.2.2.2.2.2)) (krunV (wc := (wX2_X1 cI a7 a8 a9 a10 a11 a1 a2 TB LN PS TC TW TG CM R)) (As := [.ref a1]) (rest := []) (ci := 2) hx hb hml hown hts hK (kX2_read l D cI fu a7 a8 a9 a10 a11 a1 a2 TB LN PS TC TW TG CM R v12 h13) gX3_command_X2_read rfl rfl rfl hdX2_read ⟨Nat.le_of_ble_eq_true rfl, Nat.le_of_ble_eq_true rfl⟩ (hP.sub [7, 8, 9, 10, 11, 1, 2] rfl) (hD.sub [7, 8, 9, 10, 11, 1, 2] (by decide) rfl) rfl rfl rfl rfl hl.1 rfl (Nat.le_of_ble_eq_true rfl) dX3_command_8 ⟨Nat.zero_le _, Nat.zero_le _⟩) hP hD hS hA [7, 8, 9, 10, 11, 1, 2] [0, 3, 4, 5, 6] [0, 10, 11, 1, 2, 3, 4, 5, 6, 7, 8, 9] rfl rfl (by decide) (by decide) (by decide) rfl (fun H locs hP hD hS => ?_)
  refine lv_bipush (v := (-100 : Int32)) hx hb dX3_command_11 (by decide) ?_
  refine lv_icmp_eq (tgt := 19) hx hb dX3_command_13 (by decide) (fun c14 => ?_) (fun c14 => ?_)
  · have hf := kIfT c14 hf
    refine lv_aload_n hx hb dX3_command_19 rfl (lv_at hl 0 rfl) ?_
    refine va_get (D := D) (ci := 3) (v := .ref a5) (C := RX3) (T := TX3) (N := 4) hx hb hts hinX3 hown hK.1 hP 0 rfl rfl 2 (by decide) hfl22 (fun _ h9 => h9) rfl dX3_command_20 ?_
    refine lv_aload_n hx hb dX3_command_23 rfl (lv_at hl 0 rfl) ?_
    refine va_get (D := D) (ci := 3) (v := .ref a1) (C := RX3) (T := TX3) (N := 4) hx hb hts hinX3 hown hK.1 hP 0 rfl rfl 0 (by decide) hfl10 (fun _ h9 => h9) rfl dX3_command_24 ?_
    obtain ⟨v15, h16, hf⟩ := kBind hf
    refine kgoJ (wr := [(a0, .inr (3, [.ref a1, .ref a3, .ref a5, .ref a7])), (a3, .inr (1, [.ref a4])), (a4, .inl (cI, 132, .inl R2)), (a7, .inr (2, [.ref a8, .int LN, .int v12.2.1, .ref a9, .ref a10, .ref a11, .int v12.2.2.2.2.2])), (a8, .inl (cI, 80, .inl TB)), (a9, .inl (cI, 20, .inl v12.2.2.1)), (a10, .inl (cI, 20, .inl v12.2.2.2.1)), (a11, .inl (cI, 20, .inl v12.2.2.2.2.1))]) (w2 := (wX3 cI a0 a1 a2 a3 a4 a5 a6 a7 a8 a9 a10 a11 R R2 v15.1 v15.2.1 v15.2.2 TB LN v12.2.1 v12.2.2.1 v12.2.2.2.1 v12.2.2.2.2.1 v12.2.2.2.2.2)) (krunV (wc := (wX0_X1 cI a5 a6 a1 a2 HR HS HN R)) (As := [.ref a1]) (rest := []) (ci := 0) hx hb hml hown hts hK (kX0_keep l D cI a5 a6 a1 a2 HR HS HN R v15 h16) gX3_command_X0_keep rfl rfl rfl hdX0_keep ⟨Nat.le_of_ble_eq_true rfl, Nat.le_of_ble_eq_true rfl⟩ (hP.sub [5, 6, 1, 2] rfl) (hD.sub [5, 6, 1, 2] (by decide) rfl) rfl rfl rfl rfl hl.1 rfl (Nat.le_of_ble_eq_true rfl) dX3_command_27 ⟨Nat.zero_le _, Nat.zero_le _⟩) hP hD hS hA [5, 6, 1, 2] [0, 3, 4, 7, 8, 9, 10, 11] [0, 10, 11, 1, 2, 8, 9, 3, 4, 5, 6, 7] rfl rfl (by decide) (by decide) (by decide) rfl (fun H locs hP hD hS => ?_)
    refine lv_aload_n hx hb dX3_command_30 rfl (lv_at hl 0 rfl) ?_
    refine va_get (D := D) (ci := 3) (v := .ref a7) (C := RX3) (T := TX3) (N := 4) hx hb hts hinX3 hown hK.1 hP 0 rfl rfl 3 (by decide) hfl29 (fun _ h9 => h9) rfl dX3_command_31 ?_
    refine lv_aload_n hx hb dX3_command_34 rfl (lv_at hl 0 rfl) ?_
    refine va_get (D := D) (ci := 3) (v := .ref a1) (C := RX3) (T := TX3) (N := 4) hx hb hts hinX3 hown hK.1 hP 0 rfl rfl 0 (by decide) hfl10 (fun _ h9 => h9) rfl dX3_command_35 ?_
    obtain ⟨v17, h18, hf⟩ := kBind hf
    refine kgoJ (wr := [(a0, .inr (3, [.ref a1, .ref a3, .ref a5, .ref a7])), (a3, .inr (1, [.ref a4])), (a4, .inl (cI, 132, .inl R2)), (a5, .inr (0, [.ref a6, .int v15.2.1, .int v15.2.2])), (a6, .inl (cI, 660, .inl v15.1))]) (w2 := (wX3 cI a0 a1 a2 a3 a4 a5 a6 a7 a8 a9 a10 a11 v17 R2 v15.1 v15.2.1 v15.2.2 TB LN v12.2.1 v12.2.2.1 v12.2.2.2.1 v12.2.2.2.2.1 v12.2.2.2.2.2)) (krunV (wc := (wX2_X1 cI a7 a8 a9 a10 a11 a1 a2 TB LN v12.2.1 v12.2.2.1 v12.2.2.2.1 v12.2.2.2.2.1 v12.2.2.2.2.2 R)) (As := [.ref a1]) (rest := []) (ci := 2) hx hb hml hown hts hK (kX2_carryOut l D cI fu a7 a8 a9 a10 a11 a1 a2 TB LN v12.2.1 v12.2.2.1 v12.2.2.2.1 v12.2.2.2.2.1 v12.2.2.2.2.2 R v17 h18) gX3_command_X2_carryOut rfl rfl rfl hdX2_carryOut ⟨Nat.le_of_ble_eq_true rfl, Nat.le_of_ble_eq_true rfl⟩ (hP.sub [7, 8, 9, 10, 11, 1, 2] rfl) (hD.sub [7, 8, 9, 10, 11, 1, 2] (by decide) rfl) rfl rfl rfl rfl hl.1 rfl (Nat.le_of_ble_eq_true rfl) dX3_command_38 ⟨Nat.zero_le _, Nat.zero_le _⟩) hP hD hS hA [7, 8, 9, 10, 11, 1, 2] [0, 3, 4, 5, 6] [0, 10, 11, 1, 2, 3, 4, 5, 6, 7, 8, 9] rfl rfl (by decide) (by decide) (by decide) rfl (fun H locs hP hD hS => ?_)
    refine lv_aload_n hx hb dX3_command_41 rfl (lv_at hl 0 rfl) ?_
    refine va_get (D := D) (ci := 3) (v := .ref a1) (C := RX3) (T := TX3) (N := 4) hx hb hts hinX3 hown hK.1 hP 0 rfl rfl 0 (by decide) hfl10 (fun _ h9 => h9) rfl dX3_command_42 ?_
    obtain ⟨v19, h20, hf⟩ := kBind hf
    refine kgoR (krunV (wc := (wX1 cI a1 a2 v17)) (As := []) (rest := []) (ci := 1) hx hb hml hown hts hK (kX1_cranesWithTarget l D cI fu a1 a2 v17 v19 h20) gX3_command_X1_cranesWithTarget rfl rfl rfl hdX1_cranesWithTarget ⟨Nat.le_of_ble_eq_true rfl, Nat.le_of_ble_eq_true rfl⟩ (hP.sub [1, 2] rfl) (hD.sub [1, 2] (by decide) rfl) rfl rfl rfl rfl hl.1 rfl (Nat.le_of_ble_eq_true rfl) dX3_command_45 ⟨Nat.zero_le _, Nat.zero_le _⟩) hP hD hS hA [1, 2] rfl (fun H locs hP hS => ?_)
    obtain ⟨v21, h22, hf⟩ := kBind hf
    refine kgoR (krunS (wc := ([] : va_W)) (As := [.int v19]) (rest := []) hx hb hml hown hts hK (kJ6_bitCount_0f7a4 l D cI v19 v21 h22) gX3_command_J6_bitCount_0f7a4 rfl rfl rfl hdJ6_bitCount_0f7a4 ⟨Nat.le_of_ble_eq_true rfl, Nat.le_of_ble_eq_true rfl⟩ k_P0 (k_D0 A) rfl hl.1 rfl (Nat.le_of_ble_eq_true rfl) dX3_command_48 ⟨Nat.zero_le _, Nat.zero_le _⟩) hP hD hS hA [] rfl (fun H locs hP hS => ?_)
    have he := Option.some.inj hf
    subst he
    exact kreti hx hb hr hlk hP hD hS dX3_command_51
  · have hf := kIfF c14 hf
    refine lv_bipush (v := (-103 : Int32)) hx hb dX3_command_16 (by decide) ?_
    have he := Option.some.inj hf
    subst he
    exact kreti hx hb hr hlk hP hD hS dX3_command_18
set_option maxHeartbeats 4000000 in
set_option maxRecDepth 100000 in
theorem kX3_note (l : Launch) (D : va_G) (cI : ClassId) (a0 a1 a2 a3 a4 a5 a6 a7 a8 a9 a10 a11 : Nat) (R : (Nat → Int32)) (R2 : (Nat → Int32)) (HR : (Nat → Int32)) (HS : Int32) (HN : Int32) (TB : (Nat → Int32)) (LN : Int32) (PS : Int32) (TC : (Nat → Int32)) (TW : (Nat → Int32)) (TG : (Nat → Int32)) (CM : Int32) (x1 : Int32) (x2 : Int32) (o : Int32) (hf : fX3_note R x1 x2 = some o) : Ct l yX3_note wsX3_note { frames := 1, cells := 0, slots := 0, locals := 22 } D cI [.ref a0, .int x1, .int x2] (wX3 cI a0 a1 a2 a3 a4 a5 a6 a7 a8 a9 a10 a11 R R2 HR HS HN TB LN PS TC TW TG CM) (wX3 cI a0 a1 a2 a3 a4 a5 a6 a7 a8 a9 a10 a11 R R2 HR HS HN TB LN PS TC TW TG CM) (some (.int o)) := by
  refine Ct.of (cc := cX3_note) (maxL := 3) (ret := (some .int)) (by decide) rfl (Nat.le_of_ble_eq_true rfl) ?_
  intro p e s m args below meth c A F hP hD hS ls hl
  obtain ⟨hx, hb, hml, hr, hown, hts, hlk, hK, hA⟩ := F
  have hown : s.vm.findClass RX3 = some m.cls := hown
  have hl : lv_has ls 3 [(0, .ref a0), (1, .int x1), (2, .int x2)] := hl
  have hinX3 : ∀ w ∈ wsX30, w ∈ wsX3_note := by decide +kernel
  have hfl10 := hts (.fieldLink RX3 10 "CraneGuard" "site" "LCraneGuard$Site;") (by decide +kernel)
  unfold fX3_note at hf
  refine lv_iload_n hx hb dX3_note_0 rfl (lv_at hl 1 rfl) ?_
  refine lv_if_lt (tgt := 15) hx hb dX3_note_1 (by decide) (fun c9 => ?_) (fun c9 => ?_)
  · have hf := kIfT c9 hf
    refine lv_bipush (v := (-101 : Int32)) hx hb dX3_note_15 (by decide) ?_
    have he := Option.some.inj hf
    subst he
    exact kreti hx hb hr hlk hP hD hS dX3_note_17
  · have hf := kIfF c9 hf
    refine lv_iload_n hx hb dX3_note_4 rfl (lv_at hl 1 rfl) ?_
    refine lv_aload_n hx hb dX3_note_5 rfl (lv_at hl 0 rfl) ?_
    refine va_get (D := D) (ci := 3) (v := .ref a1) (C := RX3) (T := TX3) (N := 4) hx hb hts hinX3 hown hK.1 hP 0 rfl rfl 0 (by decide) hfl10 (fun _ h9 => h9) rfl dX3_note_6 ?_
    obtain ⟨v10, h11, hf⟩ := kBind hf
    refine kgoR (krunV (wc := (wX1 cI a1 a2 R)) (As := []) (rest := [.int x1]) (ci := 1) hx hb hml hown hts hK (kX1_noteCount l D cI a1 a2 R v10 h11) gX3_note_X1_noteCount rfl rfl rfl hdX1_noteCount ⟨Nat.le_of_ble_eq_true rfl, Nat.le_of_ble_eq_true rfl⟩ (hP.sub [1, 2] rfl) (hD.sub [1, 2] (by decide) rfl) rfl rfl rfl rfl hl.1 rfl (Nat.le_of_ble_eq_true rfl) dX3_note_9 ⟨Nat.zero_le _, Nat.zero_le _⟩) hP hD hS hA [1, 2] rfl (fun H locs hP hS => ?_)
    refine lv_icmp_lt (tgt := 18) hx hb dX3_note_12 (by decide) (fun c12 => ?_) (fun c12 => ?_)
    · have hf := kIfT c12 hf
      refine lv_iload_n hx hb dX3_note_18 rfl (lv_at hl 2 rfl) ?_
      refine lv_if_lt (tgt := 27) hx hb dX3_note_19 (by decide) (fun c13 => ?_) (fun c13 => ?_)
      · have hf := kIfT c13 hf
        refine lv_bipush (v := (-102 : Int32)) hx hb dX3_note_27 (by decide) ?_
        have he := Option.some.inj hf
        subst he
        exact kreti hx hb hr hlk hP hD hS dX3_note_29
      · have hf := kIfF c13 hf
        refine lv_iload_n hx hb dX3_note_22 rfl (lv_at hl 2 rfl) ?_
        refine lv_iconst (v := (4 : Int32)) hx hb dX3_note_23 (by decide) ?_
        refine lv_icmp_lt (tgt := 30) hx hb dX3_note_24 (by decide) (fun c14 => ?_) (fun c14 => ?_)
        · have hf := kIfT c14 hf
          refine lv_aload_n hx hb dX3_note_30 rfl (lv_at hl 0 rfl) ?_
          refine va_get (D := D) (ci := 3) (v := .ref a1) (C := RX3) (T := TX3) (N := 4) hx hb hts hinX3 hown hK.1 hP 0 rfl rfl 0 (by decide) hfl10 (fun _ h9 => h9) rfl dX3_note_31 ?_
          refine lv_iload_n hx hb dX3_note_34 rfl (lv_at hl 1 rfl) ?_
          refine lv_iload_n hx hb dX3_note_35 rfl (lv_at hl 2 rfl) ?_
          obtain ⟨v15, h16, hf⟩ := kBind hf
          refine kgoR (krunV (wc := (wX1 cI a1 a2 R)) (As := [.int x1, .int x2]) (rest := []) (ci := 1) hx hb hml hown hts hK (kX1_partOfNote l D cI a1 a2 R x1 x2 v15 h16) gX3_note_X1_partOfNote rfl rfl rfl hdX1_partOfNote ⟨Nat.le_of_ble_eq_true rfl, Nat.le_of_ble_eq_true rfl⟩ (hP.sub [1, 2] rfl) (hD.sub [1, 2] (by decide) rfl) rfl rfl rfl rfl hl.1 rfl (Nat.le_of_ble_eq_true rfl) dX3_note_36 ⟨Nat.zero_le _, Nat.zero_le _⟩) hP hD hS hA [1, 2] rfl (fun H locs hP hS => ?_)
          have he := Option.some.inj hf
          subst he
          exact kreti hx hb hr hlk hP hD hS dX3_note_39
        · have hf := kIfF c14 hf
          refine lv_bipush (v := (-102 : Int32)) hx hb dX3_note_27 (by decide) ?_
          have he := Option.some.inj hf
          subst he
          exact kreti hx hb hr hlk hP hD hS dX3_note_29
    · have hf := kIfF c12 hf
      refine lv_bipush (v := (-101 : Int32)) hx hb dX3_note_15 (by decide) ?_
      have he := Option.some.inj hf
      subst he
      exact kreti hx hb hr hlk hP hD hS dX3_note_17
set_option maxHeartbeats 4000000 in
set_option maxRecDepth 100000 in
theorem kX3_notes (l : Launch) (D : va_G) (cI : ClassId) (a0 a1 a2 a3 a4 a5 a6 a7 a8 a9 a10 a11 : Nat) (R : (Nat → Int32)) (R2 : (Nat → Int32)) (HR : (Nat → Int32)) (HS : Int32) (HN : Int32) (TB : (Nat → Int32)) (LN : Int32) (PS : Int32) (TC : (Nat → Int32)) (TW : (Nat → Int32)) (TG : (Nat → Int32)) (CM : Int32) (o : Int32) (hf : fX3_notes R = some o) : Ct l yX3_notes wsX3_notes { frames := 1, cells := 0, slots := 0, locals := 20 } D cI [.ref a0] (wX3 cI a0 a1 a2 a3 a4 a5 a6 a7 a8 a9 a10 a11 R R2 HR HS HN TB LN PS TC TW TG CM) (wX3 cI a0 a1 a2 a3 a4 a5 a6 a7 a8 a9 a10 a11 R R2 HR HS HN TB LN PS TC TW TG CM) (some (.int o)) := by
  refine Ct.of (cc := cX3_notes) (maxL := 1) (ret := (some .int)) (by decide) rfl (Nat.le_of_ble_eq_true rfl) ?_
  intro p e s m args below meth c A F hP hD hS ls hl
  obtain ⟨hx, hb, hml, hr, hown, hts, hlk, hK, hA⟩ := F
  have hown : s.vm.findClass RX3 = some m.cls := hown
  have hl : lv_has ls 1 [(0, .ref a0)] := hl
  have hinX3 : ∀ w ∈ wsX30, w ∈ wsX3_notes := by decide +kernel
  have hfl10 := hts (.fieldLink RX3 10 "CraneGuard" "site" "LCraneGuard$Site;") (by decide +kernel)
  unfold fX3_notes at hf
  refine lv_aload_n hx hb dX3_notes_0 rfl (lv_at hl 0 rfl) ?_
  refine va_get (D := D) (ci := 3) (v := .ref a1) (C := RX3) (T := TX3) (N := 4) hx hb hts hinX3 hown hK.1 hP 0 rfl rfl 0 (by decide) hfl10 (fun _ h9 => h9) rfl dX3_notes_1 ?_
  obtain ⟨v3, h4, hf⟩ := kBind hf
  refine kgoR (krunV (wc := (wX1 cI a1 a2 R)) (As := []) (rest := []) (ci := 1) hx hb hml hown hts hK (kX1_noteCount l D cI a1 a2 R v3 h4) gX3_notes_X1_noteCount rfl rfl rfl hdX1_noteCount ⟨Nat.le_of_ble_eq_true rfl, Nat.le_of_ble_eq_true rfl⟩ (hP.sub [1, 2] rfl) (hD.sub [1, 2] (by decide) rfl) rfl rfl rfl rfl hl.1 rfl (Nat.le_of_ble_eq_true rfl) dX3_notes_4 ⟨Nat.zero_le _, Nat.zero_le _⟩) hP hD hS hA [1, 2] rfl (fun H locs hP hS => ?_)
  have he := Option.some.inj hf
  subst he
  exact kreti hx hb hr hlk hP hD hS dX3_notes_7
set_option maxHeartbeats 4000000 in
set_option maxRecDepth 100000 in
theorem kX3_override (l : Launch) (D : va_G) (cI : ClassId) (fu : Nat) (a0 a1 a2 a3 a4 a5 a6 a7 a8 a9 a10 a11 : Nat) (R : (Nat → Int32)) (R2 : (Nat → Int32)) (HR : (Nat → Int32)) (HS : Int32) (HN : Int32) (TB : (Nat → Int32)) (LN : Int32) (PS : Int32) (TC : (Nat → Int32)) (TW : (Nat → Int32)) (TG : (Nat → Int32)) (CM : Int32) (x1 : Int32) (x2 : Int32) (o : Int32 × (Nat → Int32) × (Nat → Int32) × Int32 × Int32) (hf : fX3_override fu R HR HS HN x1 x2 = some o) : Ct l yX3_override wsX3_override { frames := 5, cells := 0, slots := 0, locals := 114 } D cI [.ref a0, .int x1, .int x2] (wX3 cI a0 a1 a2 a3 a4 a5 a6 a7 a8 a9 a10 a11 R R2 HR HS HN TB LN PS TC TW TG CM) (wX3 cI a0 a1 a2 a3 a4 a5 a6 a7 a8 a9 a10 a11 o.2.1 R2 o.2.2.1 o.2.2.2.1 o.2.2.2.2 TB LN PS TC TW TG CM) (some (.int o.1)) := by
  refine Ct.of (cc := cX3_override) (maxL := 4) (ret := (some .int)) (by decide) rfl (Nat.le_of_ble_eq_true rfl) ?_
  intro p e s m args below meth c A F hP hD hS ls hl
  obtain ⟨hx, hb, hml, hr, hown, hts, hlk, hK, hA⟩ := F
  have hown : s.vm.findClass RX3 = some m.cls := hown
  have hl : lv_has ls 4 [(0, .ref a0), (1, .int x1), (2, .int x2)] := hl
  have hinX3 : ∀ w ∈ wsX30, w ∈ wsX3_override := by decide +kernel
  have hfl10 := hts (.fieldLink RX3 10 "CraneGuard" "site" "LCraneGuard$Site;") (by decide +kernel)
  have hfl22 := hts (.fieldLink RX3 22 "CraneGuard" "history" "LCraneGuard$History;") (by decide +kernel)
  unfold fX3_override at hf
  refine lv_aload_n hx hb dX3_override_0 rfl (lv_at hl 0 rfl) ?_
  refine va_get (D := D) (ci := 3) (v := .ref a1) (C := RX3) (T := TX3) (N := 4) hx hb hts hinX3 hown hK.1 hP 0 rfl rfl 0 (by decide) hfl10 (fun _ h9 => h9) rfl dX3_override_1 ?_
  refine lv_iload_n hx hb dX3_override_4 rfl (lv_at hl 1 rfl) ?_
  obtain ⟨v23, h24, hf⟩ := kBind hf
  refine kgoR (krunV (wc := (wX1 cI a1 a2 R)) (As := [.int x1]) (rest := []) (ci := 1) hx hb hml hown hts hK (kX1_hasCrane l D cI a1 a2 R x1 v23 h24) gX3_override_X1_hasCrane rfl rfl rfl hdX1_hasCrane ⟨Nat.le_of_ble_eq_true rfl, Nat.le_of_ble_eq_true rfl⟩ (hP.sub [1, 2] rfl) (hD.sub [1, 2] (by decide) rfl) rfl rfl rfl rfl hl.1 rfl (Nat.le_of_ble_eq_true rfl) dX3_override_5 ⟨Nat.zero_le _, Nat.zero_le _⟩) hP hD hS hA [1, 2] rfl (fun H locs hP hS => ?_)
  refine kif_neb (tgt := 14) hx hb dX3_override_8 (by decide) (fun c25 => ?_) (fun c25 => ?_)
  · have hf := kIfT c25 hf
    refine lv_iload_n hx hb dX3_override_14 rfl (lv_at hl 2 rfl) ?_
    refine lv_iconst (v := (1 : Int32)) hx hb dX3_override_15 (by decide) ?_
    refine lv_icmp_lt (tgt := 25) hx hb dX3_override_16 (by decide) (fun c26 => ?_) (fun c26 => ?_)
    · have hf := kIfT c26 hf
      refine lv_bipush (v := (-102 : Int32)) hx hb dX3_override_25 (by decide) ?_
      have he := Option.some.inj hf
      subst he
      exact kreti hx hb hr hlk hP hD hS dX3_override_27
    · have hf := kIfF c26 hf
      refine lv_iload_n hx hb dX3_override_19 rfl (lv_at hl 2 rfl) ?_
      refine lv_bipush (v := (9 : Int32)) hx hb dX3_override_20 (by decide) ?_
      refine lv_icmp_le (tgt := 28) hx hb dX3_override_22 (by decide) (fun c27 => ?_) (fun c27 => ?_)
      · have hf := kIfT c27 hf
        refine lv_aload_n hx hb dX3_override_28 rfl (lv_at hl 0 rfl) ?_
        refine va_get (D := D) (ci := 3) (v := .ref a1) (C := RX3) (T := TX3) (N := 4) hx hb hts hinX3 hown hK.1 hP 0 rfl rfl 0 (by decide) hfl10 (fun _ h9 => h9) rfl dX3_override_29 ?_
        refine lv_iload_n hx hb dX3_override_32 rfl (lv_at hl 1 rfl) ?_
        obtain ⟨v28, h29, hf⟩ := kBind hf
        refine kgoR (krunV (wc := (wX1 cI a1 a2 R)) (As := [.int x1]) (rest := []) (ci := 1) hx hb hml hown hts hK (kX1_hasTarget l D cI a1 a2 R x1 v28 h29) gX3_override_X1_hasTarget rfl rfl rfl hdX1_hasTarget ⟨Nat.le_of_ble_eq_true rfl, Nat.le_of_ble_eq_true rfl⟩ (hP.sub [1, 2] rfl) (hD.sub [1, 2] (by decide) rfl) rfl rfl rfl rfl hl.1 rfl (Nat.le_of_ble_eq_true rfl) dX3_override_33 ⟨Nat.zero_le _, Nat.zero_le _⟩) hP hD hS hA [1, 2] rfl (fun H locs hP hS => ?_)
        refine kif_eqb (tgt := 50) hx hb dX3_override_36 (by decide) (fun c30 => ?_) (fun c30 => ?_)
        · have hf := kIfF c30 hf
          refine lv_bipush (v := (-103 : Int32)) hx hb dX3_override_50 (by decide) ?_
          have he := Option.some.inj hf
          subst he
          exact kreti hx hb hr hlk hP hD hS dX3_override_52
        · have hf := kIfT c30 hf
          refine lv_aload_n hx hb dX3_override_39 rfl (lv_at hl 0 rfl) ?_
          refine va_get (D := D) (ci := 3) (v := .ref a1) (C := RX3) (T := TX3) (N := 4) hx hb hts hinX3 hown hK.1 hP 0 rfl rfl 0 (by decide) hfl10 (fun _ h9 => h9) rfl dX3_override_40 ?_
          refine lv_iload_n hx hb dX3_override_43 rfl (lv_at hl 1 rfl) ?_
          obtain ⟨v31, h32, hf⟩ := kBind hf
          refine kgoR (krunV (wc := (wX1 cI a1 a2 R)) (As := [.int x1]) (rest := []) (ci := 1) hx hb hml hown hts hK (kX1_isOnStep l D cI a1 a2 R x1 v31 h32) gX3_override_X1_isOnStep rfl rfl rfl hdX1_isOnStep ⟨Nat.le_of_ble_eq_true rfl, Nat.le_of_ble_eq_true rfl⟩ (hP.sub [1, 2] rfl) (hD.sub [1, 2] (by decide) rfl) rfl rfl rfl rfl hl.1 rfl (Nat.le_of_ble_eq_true rfl) dX3_override_44 ⟨Nat.zero_le _, Nat.zero_le _⟩) hP hD hS hA [1, 2] rfl (fun H locs hP hS => ?_)
          refine kif_eqb (tgt := 53) hx hb dX3_override_47 (by decide) (fun c33 => ?_) (fun c33 => ?_)
          · have hf := kIfF c33 hf
            refine lv_aload_n hx hb dX3_override_53 rfl (lv_at hl 0 rfl) ?_
            refine va_get (D := D) (ci := 3) (v := .ref a1) (C := RX3) (T := TX3) (N := 4) hx hb hts hinX3 hown hK.1 hP 0 rfl rfl 0 (by decide) hfl10 (fun _ h9 => h9) rfl dX3_override_54 ?_
            obtain ⟨v34, h35, hf⟩ := kBind hf
            refine kgoR (krunV (wc := (wX1 cI a1 a2 R)) (As := []) (rest := []) (ci := 1) hx hb hml hown hts hK (kX1_noteCount l D cI a1 a2 R v34 h35) gX3_override_X1_noteCount rfl rfl rfl hdX1_noteCount ⟨Nat.le_of_ble_eq_true rfl, Nat.le_of_ble_eq_true rfl⟩ (hP.sub [1, 2] rfl) (hD.sub [1, 2] (by decide) rfl) rfl rfl rfl rfl hl.1 rfl (Nat.le_of_ble_eq_true rfl) dX3_override_57 ⟨Nat.zero_le _, Nat.zero_le _⟩) hP hD hS hA [1, 2] rfl (fun H locs hP hS => ?_)
            refine lv_bipush (v := (10 : Int32)) hx hb dX3_override_60 (by decide) ?_
            refine lv_icmp_lt (tgt := 68) hx hb dX3_override_62 (by decide) (fun c36 => ?_) (fun c36 => ?_)
            · have hf := kIfT c36 hf
              refine lv_aload_n hx hb dX3_override_68 rfl (lv_at hl 0 rfl) ?_
              refine va_get (D := D) (ci := 3) (v := .ref a5) (C := RX3) (T := TX3) (N := 4) hx hb hts hinX3 hown hK.1 hP 0 rfl rfl 2 (by decide) hfl22 (fun _ h9 => h9) rfl dX3_override_69 ?_
              refine lv_aload_n hx hb dX3_override_72 rfl (lv_at hl 0 rfl) ?_
              refine va_get (D := D) (ci := 3) (v := .ref a1) (C := RX3) (T := TX3) (N := 4) hx hb hts hinX3 hown hK.1 hP 0 rfl rfl 0 (by decide) hfl10 (fun _ h9 => h9) rfl dX3_override_73 ?_
              obtain ⟨v37, h38, hf⟩ := kBind hf
              refine kgoJ (wr := [(a0, .inr (3, [.ref a1, .ref a3, .ref a5, .ref a7])), (a3, .inr (1, [.ref a4])), (a4, .inl (cI, 132, .inl R2)), (a7, .inr (2, [.ref a8, .int LN, .int PS, .ref a9, .ref a10, .ref a11, .int CM])), (a8, .inl (cI, 80, .inl TB)), (a9, .inl (cI, 20, .inl TC)), (a10, .inl (cI, 20, .inl TW)), (a11, .inl (cI, 20, .inl TG))]) (w2 := (wX3 cI a0 a1 a2 a3 a4 a5 a6 a7 a8 a9 a10 a11 R R2 v37.1 v37.2.1 v37.2.2 TB LN PS TC TW TG CM)) (krunV (wc := (wX0_X1 cI a5 a6 a1 a2 HR HS HN R)) (As := [.ref a1]) (rest := []) (ci := 0) hx hb hml hown hts hK (kX0_keep l D cI a5 a6 a1 a2 HR HS HN R v37 h38) gX3_override_X0_keep rfl rfl rfl hdX0_keep ⟨Nat.le_of_ble_eq_true rfl, Nat.le_of_ble_eq_true rfl⟩ (hP.sub [5, 6, 1, 2] rfl) (hD.sub [5, 6, 1, 2] (by decide) rfl) rfl rfl rfl rfl hl.1 rfl (Nat.le_of_ble_eq_true rfl) dX3_override_76 ⟨Nat.zero_le _, Nat.zero_le _⟩) hP hD hS hA [5, 6, 1, 2] [0, 3, 4, 7, 8, 9, 10, 11] [0, 10, 11, 1, 2, 8, 9, 3, 4, 5, 6, 7] rfl rfl (by decide) (by decide) (by decide) rfl (fun H locs hP hD hS => ?_)
              refine lv_aload_n hx hb dX3_override_79 rfl (lv_at hl 0 rfl) ?_
              refine va_get (D := D) (ci := 3) (v := .ref a1) (C := RX3) (T := TX3) (N := 4) hx hb hts hinX3 hown hK.1 hP 0 rfl rfl 0 (by decide) hfl10 (fun _ h9 => h9) rfl dX3_override_80 ?_
              refine lv_iload_n hx hb dX3_override_83 rfl (lv_at hl 1 rfl) ?_
              obtain ⟨v39, h40, hf⟩ := kBind hf
              refine kgoJ (wr := [(a0, .inr (3, [.ref a1, .ref a3, .ref a5, .ref a7])), (a3, .inr (1, [.ref a4])), (a4, .inl (cI, 132, .inl R2)), (a5, .inr (0, [.ref a6, .int v37.2.1, .int v37.2.2])), (a6, .inl (cI, 660, .inl v37.1)), (a7, .inr (2, [.ref a8, .int LN, .int PS, .ref a9, .ref a10, .ref a11, .int CM])), (a8, .inl (cI, 80, .inl TB)), (a9, .inl (cI, 20, .inl TC)), (a10, .inl (cI, 20, .inl TW)), (a11, .inl (cI, 20, .inl TG))]) (w2 := (wX3 cI a0 a1 a2 a3 a4 a5 a6 a7 a8 a9 a10 a11 v39 R2 v37.1 v37.2.1 v37.2.2 TB LN PS TC TW TG CM)) (krunV (wc := (wX1 cI a1 a2 R)) (As := [.int x1]) (rest := []) (ci := 1) hx hb hml hown hts hK (kX1_endStep l D cI a1 a2 R x1 v39 h40) gX3_override_X1_endStep rfl rfl rfl hdX1_endStep ⟨Nat.le_of_ble_eq_true rfl, Nat.le_of_ble_eq_true rfl⟩ (hP.sub [1, 2] rfl) (hD.sub [1, 2] (by decide) rfl) rfl rfl rfl rfl hl.1 rfl (Nat.le_of_ble_eq_true rfl) dX3_override_84 ⟨Nat.zero_le _, Nat.zero_le _⟩) hP hD hS hA [1, 2] [0, 3, 4, 5, 6, 7, 8, 9, 10, 11] [0, 10, 11, 1, 2, 3, 4, 5, 6, 7, 8, 9] rfl rfl (by decide) (by decide) (by decide) rfl (fun H locs hP hD hS => ?_)
              refine lv_aload_n hx hb dX3_override_87 rfl (lv_at hl 0 rfl) ?_
              refine va_get (D := D) (ci := 3) (v := .ref a1) (C := RX3) (T := TX3) (N := 4) hx hb hts hinX3 hown hK.1 hP 0 rfl rfl 0 (by decide) hfl10 (fun _ h9 => h9) rfl dX3_override_88 ?_
              obtain ⟨v41, h42, hf⟩ := kBind hf
              refine kgoR (krunV (wc := (wX1 cI a1 a2 v39)) (As := []) (rest := []) (ci := 1) hx hb hml hown hts hK (kX1_conflictSet l D cI fu a1 a2 v39 v41 h42) gX3_override_X1_conflictSet rfl rfl rfl hdX1_conflictSet ⟨Nat.le_of_ble_eq_true rfl, Nat.le_of_ble_eq_true rfl⟩ (hP.sub [1, 2] rfl) (hD.sub [1, 2] (by decide) rfl) rfl rfl rfl rfl hl.1 rfl (Nat.le_of_ble_eq_true rfl) dX3_override_91 ⟨Nat.zero_le _, Nat.zero_le _⟩) hP hD hS hA [1, 2] rfl (fun H locs hP hS => ?_)
              refine lv_istore_n (lv' := [(3, .int v41), (0, .ref a0), (1, .int x1), (2, .int x2)]) hx hb dX3_override_94 rfl hl (by decide) rfl (fun ls hl => ?_)
              refine lv_aload_n hx hb dX3_override_95 rfl (lv_at hl 1 rfl) ?_
              refine va_get (D := D) (ci := 3) (v := .ref a1) (C := RX3) (T := TX3) (N := 4) hx hb hts hinX3 hown hK.1 hP 0 rfl rfl 0 (by decide) hfl10 (fun _ h9 => h9) rfl dX3_override_96 ?_
              refine lv_iload_n hx hb dX3_override_99 rfl (lv_at hl 2 rfl) ?_
              refine lv_iload_n hx hb dX3_override_100 rfl (lv_at hl 3 rfl) ?_
              refine lv_iload_n hx hb dX3_override_101 rfl (lv_at hl 0 rfl) ?_
              obtain ⟨v43, h44, hf⟩ := kBind hf
              refine kgoJ (wr := [(a0, .inr (3, [.ref a1, .ref a3, .ref a5, .ref a7])), (a3, .inr (1, [.ref a4])), (a4, .inl (cI, 132, .inl R2)), (a5, .inr (0, [.ref a6, .int v37.2.1, .int v37.2.2])), (a6, .inl (cI, 660, .inl v37.1)), (a7, .inr (2, [.ref a8, .int LN, .int PS, .ref a9, .ref a10, .ref a11, .int CM])), (a8, .inl (cI, 80, .inl TB)), (a9, .inl (cI, 20, .inl TC)), (a10, .inl (cI, 20, .inl TW)), (a11, .inl (cI, 20, .inl TG))]) (w2 := (wX3 cI a0 a1 a2 a3 a4 a5 a6 a7 a8 a9 a10 a11 v43 R2 v37.1 v37.2.1 v37.2.2 TB LN PS TC TW TG CM)) (krunV (wc := (wX1 cI a1 a2 v39)) (As := [.int x1, .int x2, .int v41]) (rest := []) (ci := 1) hx hb hml hown hts hK (kX1_putNote l D cI a1 a2 v39 x1 x2 v41 v43 h44) gX3_override_X1_putNote rfl rfl rfl hdX1_putNote ⟨Nat.le_of_ble_eq_true rfl, Nat.le_of_ble_eq_true rfl⟩ (hP.sub [1, 2] rfl) (hD.sub [1, 2] (by decide) rfl) rfl rfl rfl rfl hl.1 rfl (Nat.le_of_ble_eq_true rfl) dX3_override_102 ⟨Nat.zero_le _, Nat.zero_le _⟩) hP hD hS hA [1, 2] [0, 3, 4, 5, 6, 7, 8, 9, 10, 11] [0, 10, 11, 1, 2, 3, 4, 5, 6, 7, 8, 9] rfl rfl (by decide) (by decide) (by decide) rfl (fun H locs hP hD hS => ?_)
              refine lv_iload_n hx hb dX3_override_105 rfl (lv_at hl 0 rfl) ?_
              have he := Option.some.inj hf
              subst he
              exact kreti hx hb hr hlk hP hD hS dX3_override_106
            · have hf := kIfF c36 hf
              refine lv_bipush (v := (-104 : Int32)) hx hb dX3_override_65 (by decide) ?_
              have he := Option.some.inj hf
              subst he
              exact kreti hx hb hr hlk hP hD hS dX3_override_67
          · have hf := kIfT c33 hf
            refine lv_bipush (v := (-103 : Int32)) hx hb dX3_override_50 (by decide) ?_
            have he := Option.some.inj hf
            subst he
            exact kreti hx hb hr hlk hP hD hS dX3_override_52
      · have hf := kIfF c27 hf
        refine lv_bipush (v := (-102 : Int32)) hx hb dX3_override_25 (by decide) ?_
        have he := Option.some.inj hf
        subst he
        exact kreti hx hb hr hlk hP hD hS dX3_override_27
  · have hf := kIfF c25 hf
    refine lv_bipush (v := (-101 : Int32)) hx hb dX3_override_11 (by decide) ?_
    have he := Option.some.inj hf
    subst he
    exact kreti hx hb hr hlk hP hD hS dX3_override_13
