/-! the whole law -/
theorem disp {α : Type} {P : Option α → Prop} {v : Int32} {a0 a1 a2 a3 a4 a5 a6 a7 a8 a9 a10 a11 a12 a13 a14 a15 a16 a17 a18 a19 a20 a21 a22 a23 a24 a25 a26 a27 a28 a29 a30 a31 : Option α} (h0 : P a0) (h1 : P a1) (h2 : P a2) (h3 : P a3) (h4 : P a4) (h5 : P a5) (h6 : P a6) (h7 : P a7) (h8 : P a8) (h9 : P a9) (h10 : P a10) (h11 : P a11) (h12 : P a12) (h13 : P a13) (h14 : P a14) (h15 : P a15) (h16 : P a16) (h17 : P a17) (h18 : P a18) (h19 : P a19) (h20 : P a20) (h21 : P a21) (h22 : P a22) (h23 : P a23) (h24 : P a24) (h25 : P a25) (h26 : P a26) (h27 : P a27) (h28 : P a28) (h29 : P a29) (h30 : P a30) (h31 : P a31) : P (if v &&& (31 : Int32) = (0 : Int32) then a0 else (if v &&& (31 : Int32) = (1 : Int32) then a1 else (if v &&& (31 : Int32) = (2 : Int32) then a2 else (if v &&& (31 : Int32) = (3 : Int32) then a3 else (if v &&& (31 : Int32) = (4 : Int32) then a4 else (if v &&& (31 : Int32) = (5 : Int32) then a5 else (if v &&& (31 : Int32) = (6 : Int32) then a6 else (if v &&& (31 : Int32) = (7 : Int32) then a7 else (if v &&& (31 : Int32) = (8 : Int32) then a8 else (if v &&& (31 : Int32) = (9 : Int32) then a9 else (if v &&& (31 : Int32) = (10 : Int32) then a10 else (if v &&& (31 : Int32) = (11 : Int32) then a11 else (if v &&& (31 : Int32) = (12 : Int32) then a12 else (if v &&& (31 : Int32) = (13 : Int32) then a13 else (if v &&& (31 : Int32) = (14 : Int32) then a14 else (if v &&& (31 : Int32) = (15 : Int32) then a15 else (if v &&& (31 : Int32) = (16 : Int32) then a16 else (if v &&& (31 : Int32) = (17 : Int32) then a17 else (if v &&& (31 : Int32) = (18 : Int32) then a18 else (if v &&& (31 : Int32) = (19 : Int32) then a19 else (if v &&& (31 : Int32) = (20 : Int32) then a20 else (if v &&& (31 : Int32) = (21 : Int32) then a21 else (if v &&& (31 : Int32) = (22 : Int32) then a22 else (if v &&& (31 : Int32) = (23 : Int32) then a23 else (if v &&& (31 : Int32) = (24 : Int32) then a24 else (if v &&& (31 : Int32) = (25 : Int32) then a25 else (if v &&& (31 : Int32) = (26 : Int32) then a26 else (if v &&& (31 : Int32) = (27 : Int32) then a27 else (if v &&& (31 : Int32) = (28 : Int32) then a28 else (if v &&& (31 : Int32) = (29 : Int32) then a29 else (if v &&& (31 : Int32) = (30 : Int32) then a30 else (if v &&& (31 : Int32) = (31 : Int32) then a31 else none)))))))))))))))))))))))))))))))) := by
  obtain ⟨j, hj, e⟩ := pk_andE v (m := 31) 5 (by decide)
  rw [e]
  refine ite_P h0 (fun n0 => ?_)
  refine ite_P h1 (fun n1 => ?_)
  refine ite_P h2 (fun n2 => ?_)
  refine ite_P h3 (fun n3 => ?_)
  refine ite_P h4 (fun n4 => ?_)
  refine ite_P h5 (fun n5 => ?_)
  refine ite_P h6 (fun n6 => ?_)
  refine ite_P h7 (fun n7 => ?_)
  refine ite_P h8 (fun n8 => ?_)
  refine ite_P h9 (fun n9 => ?_)
  refine ite_P h10 (fun n10 => ?_)
  refine ite_P h11 (fun n11 => ?_)
  refine ite_P h12 (fun n12 => ?_)
  refine ite_P h13 (fun n13 => ?_)
  refine ite_P h14 (fun n14 => ?_)
  refine ite_P h15 (fun n15 => ?_)
  refine ite_P h16 (fun n16 => ?_)
  refine ite_P h17 (fun n17 => ?_)
  refine ite_P h18 (fun n18 => ?_)
  refine ite_P h19 (fun n19 => ?_)
  refine ite_P h20 (fun n20 => ?_)
  refine ite_P h21 (fun n21 => ?_)
  refine ite_P h22 (fun n22 => ?_)
  refine ite_P h23 (fun n23 => ?_)
  refine ite_P h24 (fun n24 => ?_)
  refine ite_P h25 (fun n25 => ?_)
  refine ite_P h26 (fun n26 => ?_)
  refine ite_P h27 (fun n27 => ?_)
  refine ite_P h28 (fun n28 => ?_)
  refine ite_P h29 (fun n29 => ?_)
  refine ite_P h30 (fun n30 => ?_)
  refine ite_P h31 (fun n31 => ?_)
  have key : ∀ j, j < 32 → nI j = (0 : Int32) ∨ nI j = (1 : Int32) ∨ nI j = (2 : Int32) ∨ nI j = (3 : Int32) ∨ nI j = (4 : Int32) ∨ nI j = (5 : Int32) ∨ nI j = (6 : Int32) ∨ nI j = (7 : Int32) ∨ nI j = (8 : Int32) ∨ nI j = (9 : Int32) ∨ nI j = (10 : Int32) ∨ nI j = (11 : Int32) ∨ nI j = (12 : Int32) ∨ nI j = (13 : Int32) ∨ nI j = (14 : Int32) ∨ nI j = (15 : Int32) ∨ nI j = (16 : Int32) ∨ nI j = (17 : Int32) ∨ nI j = (18 : Int32) ∨ nI j = (19 : Int32) ∨ nI j = (20 : Int32) ∨ nI j = (21 : Int32) ∨ nI j = (22 : Int32) ∨ nI j = (23 : Int32) ∨ nI j = (24 : Int32) ∨ nI j = (25 : Int32) ∨ nI j = (26 : Int32) ∨ nI j = (27 : Int32) ∨ nI j = (28 : Int32) ∨ nI j = (29 : Int32) ∨ nI j = (30 : Int32) ∨ nI j = (31 : Int32) := by decide +kernel
  rcases key j hj with z | z | z | z | z | z | z | z | z | z | z | z | z | z | z | z | z | z | z | z | z | z | z | z | z | z | z | z | z | z | z | z
  · exact absurd z n0
  · exact absurd z n1
  · exact absurd z n2
  · exact absurd z n3
  · exact absurd z n4
  · exact absurd z n5
  · exact absurd z n6
  · exact absurd z n7
  · exact absurd z n8
  · exact absurd z n9
  · exact absurd z n10
  · exact absurd z n11
  · exact absurd z n12
  · exact absurd z n13
  · exact absurd z n14
  · exact absurd z n15
  · exact absurd z n16
  · exact absurd z n17
  · exact absurd z n18
  · exact absurd z n19
  · exact absurd z n20
  · exact absurd z n21
  · exact absurd z n22
  · exact absurd z n23
  · exact absurd z n24
  · exact absurd z n25
  · exact absurd z n26
  · exact absurd z n27
  · exact absurd z n28
  · exact absurd z n29
  · exact absurd z n30
  · exact absurd z n31
theorem end_iff {L q : Nat} (hL : L ≤ 2560) (hq : q < 2 ^ 31) : ((Int32.ofNat L) - (5 : Int32)) < nI q ↔ L < q + 5 := by
  by_cases h5 : L < 5
  · have hk : ∀ L, L < 5 → (nI L - (5 : Int32)).toInt < 0 := by decide
    have h1 := hk L h5
    have h2 := nI_toInt hq
    constructor
    · intro _; omega
    · intro _
      rw [Int32.lt_iff_toInt_lt, h2]
      show (nI L - (5 : Int32)).toInt < (q : Int)
      omega
  · have e : (Int32.ofNat L) - (5 : Int32) = nI (L - 5) := pk_sub (show 5 ≤ L by omega)
    rw [e, nI_ltI (by omega) hq]
    omega
section LAWR
variable {fu L : Nat} {xs : Nat → Int32}

theorem law_step {q : Nat} {R R2 HR TB TC TW TG M MX : Nat → Int32} {HS HN LN PS CM SV ML MA : Int32} {MH : Int64} (hfu : 2000 < fu) (hL : L ≤ 2560) (hq : q + 5 ≤ L) (h : INV R HR HS HN M SV) (ht : TXT TB LN MX ML) : GO (nI q) (fL_law_L18 fu L xs (R, R2, HR, HS, HN, TB, LN, PS, TC, TW, TG, CM, M, SV, MX, ML, MA, MH, nI q)) := by
  have r0 : rdA xs L (nI q) = some (xs q) := rd_n (by omega) (by omega)
  have r1 : rdA xs L (nI q + (1 : Int32)) = some (xs (q + 1)) := by
    show rdA xs L (nI q + nI 1) = _
    rw [nI_add]; exact rd_n (by omega) (by omega)
  have r2 : rdA xs L (nI q + (2 : Int32)) = some (xs (q + 2)) := by
    show rdA xs L (nI q + nI 2) = _
    rw [nI_add]; exact rd_n (by omega) (by omega)
  have r3 : rdA xs L (nI q + (3 : Int32)) = some (xs (q + 3)) := by
    show rdA xs L (nI q + nI 3) = _
    rw [nI_add]; exact rd_n (by omega) (by omega)
  have r4 : rdA xs L (nI q + (4 : Int32)) = some (xs (q + 4)) := by
    show rdA xs L (nI q + nI 4) = _
    rw [nI_add]; exact rd_n (by omega) (by omega)
  show GO (nI q) (fL_law_B fu L xs R R2 HR HS HN TB LN PS TC TW TG CM M SV MX ML MA MH (nI q))
  unfold fL_law_B
  rw [if_neg (fun z => absurd ((end_iff hL (by omega)).mp z) (by omega)), r0, Option.bind_some]
  exact disp (gL_0 hfu r1 r2 r3 r4 h ht) (gL_1 hfu r1 r2 r3 r4 h ht) (gL_2 hfu r1 r2 r3 r4 h ht) (gL_3 hfu r1 r2 r3 r4 h ht) (gL_4 hfu r1 r2 r3 r4 h ht) (gL_5 hfu r1 r2 r3 r4 h ht) (gL_6 hfu r1 r2 r3 r4 h ht) (gL_7 hfu r1 r2 r3 r4 h ht) (gL_8 hfu r1 r2 r3 r4 h ht) (gL_9 hfu r1 r2 r3 r4 h ht) (gL_10 hfu r1 r2 r3 r4 h ht) (gL_11 hfu r1 r2 r3 r4 h ht) (gL_12 hfu r1 r2 r3 r4 h ht) (gL_13 hfu r1 r2 r3 r4 h ht) (gL_14 hfu r1 r2 r3 r4 h ht) (gL_15 hfu r1 r2 r3 r4 h ht) (gL_16 hfu r1 r2 r3 r4 h ht) (gL_17 hfu r1 r2 r3 r4 h ht) (gL_18 hfu r1 r2 r3 r4 h ht) (gL_19 hfu r1 r2 r3 r4 h ht) (gL_20 hfu r1 r2 r3 r4 h ht) (gL_21 hfu r1 r2 r3 r4 h ht) (gL_22 hfu r1 r2 r3 r4 h ht) (gL_23 hfu r1 r2 r3 r4 h ht) (gL_24 hfu r1 r2 r3 r4 h ht) (gL_25 hfu r1 r2 r3 r4 h ht) (gL_26 hfu r1 r2 r3 r4 h ht) (gL_27 hfu r1 r2 r3 r4 h ht) (gL_28 hfu r1 r2 r3 r4 h ht) (gL_29 hfu r1 r2 r3 r4 h ht) (gL_30 hfu r1 r2 r3 r4 h ht) (gL_31 hfu r1 r2 r3 r4 h ht)
theorem law_go (hfu : 2000 < fu) (hL : L ≤ 2560) : ∀ (r q m : Nat) (R R2 HR : Nat → Int32) (HS HN : Int32) (TB : Nat → Int32) (LN PS : Int32) (TC TW TG : Nat → Int32) (CM : Int32) (M : Nat → Int32) (SV : Int32) (MX : Nat → Int32) (ML MA : Int32) (MH : Int64), L - q ≤ r → q ≤ L + 5 → r < m → INV R HR HS HN M SV → TXT TB LN MX ML → lp (fL_law_L18 fu L xs) m (R, R2, HR, HS, HN, TB, LN, PS, TC, TW, TG, CM, M, SV, MX, ML, MA, MH, nI q) = some true := by
  intro r
  induction r with
  | zero =>
    intro q m R R2 HR HS HN TB LN PS TC TW TG CM M SV MX ML MA MH hr hq hm h ht
    obtain ⟨m, rfl⟩ : ∃ z, m = z + 1 := ⟨m - 1, by omega⟩
    refine lp_inr ?_
    show fL_law_B fu L xs R R2 HR HS HN TB LN PS TC TW TG CM M SV MX ML MA MH (nI q) = _
    unfold fL_law_B
    exact if_pos ((end_iff hL (by omega)).mpr (by omega))
  | succ r ih =>
    intro q m R R2 HR HS HN TB LN PS TC TW TG CM M SV MX ML MA MH hr hq hm h ht
    obtain ⟨m, rfl⟩ : ∃ z, m = z + 1 := ⟨m - 1, by omega⟩
    by_cases he : L < q + 5
    · refine lp_inr ?_
      show fL_law_B fu L xs R R2 HR HS HN TB LN PS TC TW TG CM M SV MX ML MA MH (nI q) = _
      unfold fL_law_B
      exact if_pos ((end_iff hL (by omega)).mpr he)
    · obtain ⟨R', R2', HR', HS', HN', TB', LN', PS', TC', TW', TG', CM', M', SV', MX', ML', MA', MH', e, h1, t1⟩ := law_step (xs := xs) (R2 := R2) (PS := PS) (TC := TC) (TW := TW) (TG := TG) (CM := CM) (MA := MA) (MH := MH) hfu hL (show q + 5 ≤ L by omega) h ht
      rw [lp_inl e]
      have e5 : nI q + (5 : Int32) = nI (q + 5) := nI_add q 5
      rw [e5]
      exact ih (q + 5) m R' R2' HR' HS' HN' TB' LN' PS' TC' TW' TG' CM' M' SV' MX' ML' MA' MH' (by omega) (by omega) (by omega) h1 t1
end LAWR
def R00 (i : Nat) : Nat → Int32 := fun j => if 44 ≤ j ∧ j < 44 + i then -100 else 0
theorem init_e {fu : Nat} (hfu : 100 < fu) : fX1_init fu = some (R00 48) := by
  have h0 : (fun _ => 0 : Nat → Int32) = R00 0 := by
    funext j
    unfold R00
    rw [if_neg (by omega)]
  unfold fX1_init
  rw [h0]
  refine lp_go (body := fX1_init_L16) (fun i => (R00 i, nI (44 + i))) 48 _ (by omega) ?_ ?_
  · intro i hi
    have e : upd (R00 i) (44 + i) (-100) = R00 (i + 1) := by
      funext j
      unfold R00
      by_cases z : j = 44 + i
      · subst z
        rw [upd_eq, if_pos (by omega)]
      · rw [upd_ne z]
        by_cases y : 44 ≤ j ∧ j < 44 + i
        · rw [if_pos y, if_pos (by omega)]
        · rw [if_neg y, if_neg (by omega)]
    unfold fX1_init_L16
    simp only [if_neg (show ¬ (92 : Int32) ≤ nI (44 + i) from q_nle (a := 92) (by omega) (by decide)), wr_n (f := R00 i) (v := -100) (show 44 + i < 132 by omega) (by decide), Option.bind_some, nI_1, e]
    rfl
  · unfold fX1_init_L16
    exact if_pos (show (92 : Int32) ≤ nI (44 + 48) by decide)
theorem INV_0 : INV (R00 48) (fun _ => 0) 0 0 (fun _ => 0) 0 := by
  refine ⟨0, 0, 0, ⟨by decide, ?_, rfl, ?_, ?_, ?_, ?_, ?_, ?_⟩, ⟨⟨0, by decide, rfl⟩, ⟨0, by decide, rfl⟩, fun c hc => absurd hc (by omega)⟩, ⟨by decide, by decide, fun a ha => absurd ha (by omega)⟩, rfl, rfl, rfl⟩
  · exact if_neg (by omega)
  · exact if_neg (by omega)
  · exact if_neg (by omega)
  · exact if_neg (by omega)
  · intro j hj
    exact if_neg (by omega)
  · intro c hc
    exact absurd hc (by omega)
  · intro c _ hc4 k hk4 hk
    unfold R00
    have hix : ∀ c, c < 4 → ∀ k, k < 21 → 4 ≤ k → ((44 ≤ ix c k ∧ ix c k < 44 + 48) ↔ ¬ k < 9) := by decide +kernel
    by_cases h9 : k < 9
    · rw [if_pos h9, if_neg (fun z => absurd h9 ((hix c hc4 k hk hk4).mp z))]
    · rw [if_neg h9, if_pos ((hix c hc4 k hk hk4).mpr h9)]
theorem TXT_0 : TXT (fun _ => 0) 0 (fun _ => 0) 0 := ⟨0, by decide, rfl, rfl, rfl, fun j hj => absurd hj (by omega)⟩
theorem law_pure (L : Nat) (xs : Nat → Int32) (hL : L ≤ 2560) : ∃ (fu : Nat) (R0 : Nat → Int32), fX1_init fu = some R0 ∧ lp (fL_law_L18 fu L xs) fu (R0, R0, (fun _ => 0), 0, 0, (fun _ => 0), 0, 0, (fun _ => 0), (fun _ => 0), (fun _ => 0), 0, (fun _ => 0), 0, (fun _ => 0), 0, 0, 0, 0) = some true :=
  ⟨3000, R00 48, init_e (by decide), law_go (by decide) hL 2560 0 3000 (R00 48) (R00 48) (fun _ => 0) 0 0 (fun _ => 0) 0 0 (fun _ => 0) (fun _ => 0) (fun _ => 0) 0 (fun _ => 0) 0 (fun _ => 0) 0 0 0 (by omega) (by omega) (by decide) INV_0 TXT_0⟩
