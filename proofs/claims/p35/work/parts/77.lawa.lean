/-! p35: the law's 22 calls -/
section LWA
variable {R T HR M : Nat → Int32} {HS HN : Int32} {n fu t L : Nat} {xs : Nat → Int32}
theorem cell_e (hL : L ≤ 260) {k : Nat} (hk : k < 2 ^ 30) : ∃ v, fL_cell L xs (nI k) = some v := by
  unfold fL_cell
  by_cases h : Int32.ofNat L ≤ nI k
  · rw [if_pos h]
    exact ⟨_, rfl⟩
  · rw [if_neg h]
    have hlt : k < L := by
      apply Classical.byContradiction
      intro q
      exact h (q_le (a := L) (b := k) (by omega) (by omega))
    exact ⟨_, rd_n hlt (by omega)⟩
/-- the law's state behind a call: what holds, for some state -/
def LI (n t : Nat) (R : Nat → Int32) (HS HN : Int32) : Prop := (∃ M, OK R M n t) ∧ HI HS HN
theorem law_227 (hO : OK R M n t) (hH : HI HS HN) (hfu : 2000 < fu) (ht : t ≤ 1000) (y5 : Int32) {i : Nat} (hi : i < 22) : ∃ (R' T' HR' : Nat → Int32) (HS' HN' : Int32), fL_law_J227 fu R T HR HS HN y5 (nI i) = some (.inl (R', T', HR', HS', HN', nI (i + 1))) ∧ OK R' M n t ∧ HI HS' HN' := by
  have hO' := hO
  obtain ⟨hR, hG, hN, h3, h0⟩ := hO
  have hs := isSound_x hR hG (show 12 < fu by omega) false (fun _ => hN)
  by_cases q : jrem (nI i) (5 : Int32) = (4 : Int32)
  · obtain ⟨j, hj, e1⟩ := low_e (jshr y5 (5 : Int32)) (m := 40) (by decide) (by decide)
    have e2 : (1 : Int32) + nI j = nI (1 + j) := nI_add 1 j
    obtain ⟨r, f1, R', T', HR', HS', HN', rfl, f3, f4⟩ := isForetold_x (T := T) (HR := HR) hR hG hH hfu (w := 1 + j) (by omega) (by omega) h0 (by omega)
    refine ⟨R', T', HR', HS', HN', ?_, ⟨f3, hG, hN, h3, h0⟩, f4⟩
    unfold fL_law_J227
    refine obs hs ?_
    rw [if_pos rfl, if_pos q]
    refine obs e1 ?_
    rw [e2]
    refine obs f1 ?_
    rw [if_pos rfl, nI_1]
  · refine ⟨R, T, HR, HS, HN, ?_, hO', hH⟩
    unfold fL_law_J227
    refine obs hs ?_
    rw [if_pos rfl, if_neg q, nI_1]
theorem law_191e (hO : OK R M n t) (hH : HI HS HN) (hfu : 2000 < fu) (ht : t ≤ 1000) {y8 : Int32} (h8 : y8 < -100) (y6 : Int64) (y5 : Int32) {i : Nat} (hi : i < 22) : ∃ (R' T' HR' : Nat → Int32) (HS' HN' : Int32), fL_law_J191 fu R T HR HS HN y8 y6 y5 (nI i) = some (.inl (R', T', HR', HS', HN', nI (i + 1))) ∧ OK R' M n t ∧ HI HS' HN' := by
  unfold fL_law_J191
  rw [if_pos h8]
  exact law_227 hO hH hfu ht y5 hi
theorem law_191k {R0 M0 : Nat → Int32} {t0 : Nat} (hO0 : OK R0 M0 n t0) (hO : OK R M n t) (hK : KP HR HS HN M0 n) (hfu : 2000 < fu) (ht0 : t0 ≤ 500) (ht : t ≤ t0 + 12) {y8 : Int32} (h8 : ¬ y8 < -100) (y5 : Int32) {i : Nat} (hi : i < 22) : ∃ (R' T' HR' : Nat → Int32) (HS' HN' : Int32), fL_law_J191 fu R T HR HS HN y8 (dgst M0 n) y5 (nI i) = some (.inl (R', T', HR', HS', HN', nI (i + 1))) ∧ (∃ M' t', OK R' M' n t' ∧ t' ≤ t0 + 12) ∧ HI HS' HN' := by
  obtain ⟨-, hG0, hN0, h30, h00⟩ := hO0
  by_cases q : ((jshr y5 (27 : Int32)) &&& (3 : Int32)) = (0 : Int32)
  · obtain ⟨v, R1, HS1, HN1, u1, u2, u3, u4⟩ := undo_n (R := R) hK
    obtain ⟨R', T', HR', HS', HN', z1, z2, z3⟩ := law_227 (R := R1) (T := T) (HR := HR) (HS := HS1) (HN := HN1) (M := M0) (t := t0) ⟨u3, hG0, hN0, h30, h00⟩ u4 hfu (by omega) y5 hi
    refine ⟨R', T', HR', HS', HN', ?_, ⟨M0, t0, z2, by omega⟩, z3⟩
    unfold fL_law_J191
    rw [if_neg h8, if_pos q]
    refine obs u1 ?_
    dsimp only
    rw [if_neg u2]
    refine obs (digest_x u3 (GD_wf hG0) (by omega)) ?_
    rw [cmp_self, if_pos rfl]
    exact z1
  · obtain ⟨R', T', HR', HS', HN', z1, z2, z3⟩ := law_227 (T := T) (HR := HR) hO hK.hi hfu (by omega) y5 hi
    refine ⟨R', T', HR', HS', HN', ?_, ⟨M, t, z2, ht⟩, z3⟩
    unfold fL_law_J191
    rw [if_neg h8, if_neg q]
    exact z1
theorem law_141 (hO : OK R M n t) (hH : HI HS HN) (hfu : 2000 < fu) (hL : L ≤ 260) (ht : t ≤ 500) (y2 y3 : Int32) {i : Nat} (hi : i < 22) : ∃ (R' T' HR' : Nat → Int32) (HS' HN' : Int32), fL_law_L141 fu L xs y2 y3 (R, T, HR, HS, HN, nI i) = some (.inl (R', T', HR', HS', HN', nI (i + 1))) ∧ (∃ M' t', OK R' M' n t' ∧ t' ≤ t + 12) ∧ HI HS' HN' := by
  obtain ⟨y5, hc⟩ := cell_e (xs := xs) hL (k := 5 + i) (by omega)
  have e5 : (5 : Int32) + nI i = nI (5 + i) := nI_add 5 i
  have hdg := digest_x hO.1 (GD_wf hO.2.1) (show 50 < fu by omega)
  obtain ⟨v, R1, T1, HR1, HS1, HN1, c1, c2⟩ := changes_x (R2 := T) (HR := HR) hO hH (show 200 < fu by omega) (show t ≤ 1000 by omega) y5
  have head : ∀ r, (if (-100 : Int32) ≤ v then (fL_law_J191 fu R1 T1 HR1 HS1 HN1 v (dgst M n) y5 (nI i)) else (Option.bind (fX3_digest fu R1) fun v286 => if (lg_cmp v286 (dgst M n)) = (0 : Int32) then (fL_law_J191 fu R1 T1 HR1 HS1 HN1 v (dgst M n) y5 (nI i)) else (some (.inr false)))) = r → fL_law_L141 fu L xs y2 y3 (R, T, HR, HS, HN, nI i) = r := by
    intro r hr
    unfold fL_law_L141
    dsimp only
    rw [if_neg (show ¬ (22 : Int32) ≤ nI i from q_nle (a := 22) hi (by decide)), e5]
    refine obs hc ?_
    refine obs hdg ?_
    refine obs c1 ?_
    exact hr
  rcases c2 with ⟨hv, rfl, rfl, rfl, rfl⟩ | ⟨hv, hK, M', t', hO', ht'⟩
  · obtain ⟨R', T', HR', HS', HN', z1, z2, z3⟩ := law_191e (R := R1) (T := T1) (HR := HR1) hO hH hfu (by omega) hv (dgst M n) y5 hi
    refine ⟨R', T', HR', HS', HN', head _ ?_, ⟨M, t, z2, by omega⟩, z3⟩
    rw [if_neg (fun e => by
      have h1 := Int32.le_iff_toInt_le.mp e
      have h2 := Int32.lt_iff_toInt_lt.mp hv
      omega)]
    refine obs hdg ?_
    rw [cmp_self, if_pos rfl]
    exact z1
  · obtain ⟨R', T', HR', HS', HN', z1, z2, z3⟩ := law_191k (T := T1) hO hO' hK hfu ht ht' hv y5 hi
    refine ⟨R', T', HR', HS', HN', head _ ?_, z2, z3⟩
    rw [if_pos (by
      rw [Int32.le_iff_toInt_le]
      have h1 : ¬ v.toInt < (-100 : Int32).toInt := fun e => hv (Int32.lt_iff_toInt_lt.mpr e)
      omega)]
    exact z1
/-- the 22 calls, where what comes behind them answers true from every state that they may leave -/
theorem law_138 (hn4 : n ≤ 4) (hO : OK R M n t) (hH : HI HS HN) (hfu : 2000 < fu) (hL : L ≤ 260) (ht : t = 0) (y2 y3 : Int32) (next : ∀ (R' T' HR' M' : Nat → Int32) (HS' HN' : Int32) (t' : Nat), OK R' M' n t' → HI HS' HN' → t' ≤ 300 → fL_law_J269 fu R' T' HR' HS' HN' y3 y2 = some true) : fL_law_J138 fu L xs R T HR HS HN y3 y2 = some true := by
  obtain ⟨r, h1, h2⟩ := lp_ex (body := fL_law_L141 fu L xs y2 y3) (fun i (s : (Nat → Int32) × (Nat → Int32) × (Nat → Int32) × Int32 × Int32 × Int32) => (∃ M' t', OK s.1 M' n t' ∧ t' ≤ 12 * i) ∧ HI s.2.2.2.1 s.2.2.2.2.1 ∧ s.2.2.2.2.2 = nI i) (fun r => r = true) 22
    (by
      rintro i hi ⟨Y, T3, H3, a, b, t3⟩ ⟨⟨M', t', q1, q2⟩, q3, q4⟩
      dsimp only at q1 q3 q4
      subst q4
      obtain ⟨R', T', HR', HS', HN', z1, ⟨M'', t'', z2, z3⟩, z4⟩ := law_141 (T := T3) (HR := H3) (xs := xs) q1 q3 hfu hL (by omega) y2 y3 hi
      exact ⟨_, z1, ⟨M'', t'', z2, by omega⟩, z4, rfl⟩)
    (by
      rintro ⟨Y, T3, H3, a, b, t3⟩ ⟨⟨M', t', q1, q2⟩, q3, q4⟩
      dsimp only at q1 q3 q4
      subst q4
      refine ⟨true, ?_, rfl⟩
      unfold fL_law_L141
      dsimp only
      rw [if_pos (show (22 : Int32) ≤ nI 22 from q_le (a := 22) (by decide) (by decide))]
      refine obs (next Y T3 H3 M' a b t' q1 q3 (by omega)) ?_
      rfl)
    22 fu 0 (R, T, HR, HS, HN, (0 : Int32)) (by omega) (by omega) ⟨⟨M, t, hO, by omega⟩, hH, rfl⟩
  subst h2
  unfold fL_law_J138
  exact h1
end LWA
