/-! the foretelling calls, and the digest -/
theorem INV_kept {R HR M : Nat → Int32} {HS HN SV : Int32} (h : INV R HR HS HN M SV) : INV R HR HS HN (kept M) SV := by
  obtain ⟨n, p, sv, hR, hW, hH, e1, e2, e3⟩ := h
  exact ⟨n, p, sv, hR.agree (fun j hj => kept_lo (by omega)), hW.agree hR.1 (fun j hj => kept_lo (by omega)), hH.agree (fun j h1 h2 => kept_lo h2), e1, e2, e3⟩
section READF
variable {R HR M T : Nat → Int32} {HS HN SV : Int32} {fu : Nat}
theorem allDone_p (hfu : 2000 < fu) (h : INV R HR HS HN M SV) : ∃ v T' M', fX3_allDone fu R T = some (v, T') ∧ fX4_allDone fu M = some (v, M') ∧ INV R HR HS HN M' SV := by
  have h0 := h
  obtain ⟨n, p, sv, hR, hW, hH, -, -, -⟩ := h
  obtain ⟨v, T', h1, h2⟩ := allDone_pair (T := T) hfu hR hW
  exact ⟨v, T', kept M, h1, h2, INV_kept h0⟩
theorem done_p (hfu : 2000 < fu) (h : INV R HR HS HN M SV) (x1 : Int32) : ∃ v T' M', fX3_done fu R T x1 = some (v, T') ∧ fX4_done fu M x1 = some (v, M') ∧ INV R HR HS HN M' SV := by
  have h0 := h
  obtain ⟨n, p, sv, hR, hW, hH, -, -, -⟩ := h
  unfold fX3_done fX4_done
  rw [cHasCrane_e hR, mIsCrane_e hR.1 hR.2.2.1, Option.bind_some, Option.bind_some]
  by_cases hc : 0 ≤ x1.toInt ∧ x1.toInt < n
  · obtain ⟨c, hcn, rfl⟩ := of_toInt hc (by have := hR.1; omega)
    obtain ⟨v, T', h1, h2⟩ := done_pair (T := T) hfu hR hW hcn
    rw [decide_eq_true hc, if_pos rfl, if_pos rfl, h1, h2]
    exact ⟨v, T', kept M, rfl, rfl, INV_kept h0⟩
  · rw [decide_eq_false hc, if_neg (by decide), if_neg (by decide)]
    exact ⟨_, T, M, rfl, rfl, h0⟩
theorem waits_p (hfu : 2000 < fu) (h : INV R HR HS HN M SV) (x1 x2 : Int32) : ∃ v T' M', fX3_waits fu R T x1 x2 = some (v, T') ∧ fX4_waits fu M x1 x2 = some (v, M') ∧ INV R HR HS HN M' SV := by
  have h0 := h
  obtain ⟨n, p, sv, hR, hW, hH, -, -, -⟩ := h
  have hn4 := hR.1
  unfold fX3_waits fX4_waits
  rw [cHasCrane_e hR, mIsCrane_e hR.1 hR.2.2.1, Option.bind_some, Option.bind_some]
  by_cases hc : 0 ≤ x1.toInt ∧ x1.toInt < n
  · obtain ⟨c, hcn, rfl⟩ := of_toInt hc (by omega)
    have hc4 := hR.lt hcn
    rw [decide_eq_true hc, if_pos rfl, if_pos rfl, if_in2, in_e, Option.bind_some]
    by_cases hw : (1 : Int32).toInt ≤ x2.toInt ∧ x2.toInt ≤ (1000 : Int32).toInt
    · have hw' : 1 ≤ x2.toInt ∧ x2.toInt ≤ 1000 := hw
      obtain ⟨w, hw1, rfl⟩ := of_toInt (x := x2) (n := 1001) (by omega) (by decide)
      rw [decide_eq_true hw, if_pos rfl, if_pos rfl]
      obtain ⟨T1, t1, t2⟩ := copyFrom_e T R
      have hRk : Rel T1 (kept M) n := (hR.agreeX t2).agree (fun j hj => kept_lo (by omega))
      have hWk : WF (kept M) n := hW.agree hR.1 (fun j hj => kept_lo (by omega))
      obtain ⟨T', h1⟩ := cWaits_loop (fu := fu) (by omega) hWk hcn (F (kept M) c 6) w (by omega) w 0 fu T1 (by omega) (by omega) hRk
      have h2 := mWaits_loop (M := M) (fu := fu) (by omega) hn4 hR.2.2.1 hc4 (F (kept M) c 6) w (by omega) w 0 fu (by omega) (by omega)
      have h1 : lp (fX3_foretoldWaits_L23 fu (nI c) (nI w) (F (kept M) c 6)) fu (T1, (0 : Int32)) = _ := h1
      have h2 : lp (fX4_waits_L43 fu (nI c) (nI w) (F (kept M) c 6)) fu (kept M, (0 : Int32)) = _ := h2
      unfold fX3_foretoldWaits
      rw [t1, Option.bind_some, cWait_e hRk hcn, Option.bind_some, h1, keep_e (by omega), Option.bind_some, Option.bind_some, of6 hc4, Option.bind_some, h2]
      exact ⟨_, T', kept M, rfl, rfl, INV_kept h0⟩
    · rw [decide_eq_false hw, if_neg (by decide), if_neg (by decide)]
      exact ⟨_, T, M, rfl, rfl, h0⟩
  · rw [decide_eq_false hc, if_neg (by decide), if_neg (by decide)]
    exact ⟨_, T, M, rfl, rfl, h0⟩
/-! the digest -/
def mx (h : Int64) (v : Int32) : Int64 := ((31 : Int64) * h) + (Int32.toInt64 v)
theorem mixes_e (h : Int64) (v : Int32) : fX4_mixes h v = some (mx h v) := rfl
def dg (f : Nat → Int32) (h : Int64) : Nat → Int64
  | 0 => h
  | i + 1 => mx (dg f h i) (f i)
def d1 (M : Nat → Int32) (c : Nat) (h : Int64) : Int64 := dg (fun k => F M c (9 + k)) (dg (prp M c) h 10) 12
def d2 (M : Nat → Int32) (h : Int64) : Nat → Int64
  | 0 => h
  | c + 1 => d1 M c (d2 M h c)
variable {n : Nat}
theorem cArcs_e (hR : Rel R M n) {c : Nat} (hc : c < n) (hfu : 12 < fu) (h : Int64) : lp (fX1_hashWithCrane_L39 R (nI c)) fu (h, (0 : Int32)) = some (.inr (dg (fun k => F M c (9 + k)) h 12)) := by
  have hc4 := hR.lt hc
  refine lp_go (body := fX1_hashWithCrane_L39 R (nI c)) (fun j => (dg (fun k => F M c (9 + k)) h (2 * j), nI j)) 6 _ (by omega) ?_ ?_
  · intro z hz
    unfold fX1_hashWithCrane_L39 fX1_firstOf fX1_lastOf
    simp only [if_neg (show ¬ (6 : Int32) ≤ nI z from q_nle (a := 6) hz (by decide)), rd44 hc4 hz, rd68 hc4 hz, hR.f hc (9 + 2 * z) (by omega), hR.f hc (9 + 2 * z + 1) (by omega), Option.bind_some, nI_1]
    rfl
  · unfold fX1_hashWithCrane_L39
    simp only [if_pos (show (6 : Int32) ≤ nI 6 from q_le (a := 6) (by decide) (by decide))]
theorem cCraneHash_e (hR : Rel R M n) {c : Nat} (hc : c < n) (hfu : 12 < fu) (h : Int64) : fX1_hashWithCrane fu R h (nI c) = some (d1 M c h) := by
  refine lp_go (body := fX1_hashWithCrane_L6 fu R (nI c)) (fun j => (dg (prp M c) h j, nI j)) 10 _ (by omega) ?_ ?_
  · intro w hw
    unfold fX1_hashWithCrane_L6
    simp only [if_neg (show ¬ (10 : Int32) ≤ nI w from q_nle (a := 10) hw (by decide)), cProp_e hR hc hfu hw, Option.bind_some, nI_1]
    rfl
  · unfold fX1_hashWithCrane_L6
    simp only [if_pos (show (10 : Int32) ≤ nI 10 from q_le (a := 10) (by decide) (by decide))]
    exact cArcs_e hR hc hfu _
theorem mArcs_e {c : Nat} (hc : c < 4) (hfu : 12 < fu) (h : Int64) : lp (fX4_digest_L75 M (nI c)) fu (h, (0 : Int32)) = some (.inr (.inl (dg (fun k => F M c (9 + k)) h 12, nI (c + 1)))) := by
  refine lp_go (body := fX4_digest_L75 M (nI c)) (fun j => (dg (fun k => F M c (9 + k)) h j, nI j)) 12 _ (by omega) ?_ ?_
  · intro k hk
    have e : (9 : Int32) + nI k = nI (9 + k) := nI_add 9 k
    unfold fX4_digest_L75
    simp only [if_neg (show ¬ (12 : Int32) ≤ nI k from q_nle (a := 12) hk (by decide)), e, of_n hc (show 9 + k < 21 by omega), mixes_e, Option.bind_some, nI_1]
    rfl
  · unfold fX4_digest_L75
    simp only [if_pos (show (12 : Int32) ≤ nI 12 from q_le (a := 12) (by decide) (by decide)), nI_1]
theorem mCraneHash_e {c : Nat} (hc : c < 4) (hfu : 12 < fu) (h : Int64) : lp (fX4_digest_L51 fu M (nI c)) fu (h, (0 : Int32)) = some (.inl (d1 M c h, nI (c + 1))) := by
  refine lp_go (body := fX4_digest_L51 fu M (nI c)) (fun j => (dg (prp M c) h j, nI j)) 10 _ (by omega) ?_ ?_
  · intro w hw
    unfold fX4_digest_L51
    simp only [if_neg (show ¬ (10 : Int32) ≤ nI w from q_nle (a := 10) hw (by decide)), mProp_e hc hfu hw, mixes_e, Option.bind_some, nI_1]
    rfl
  · unfold fX4_digest_L51
    simp only [if_pos (show (10 : Int32) ≤ nI 10 from q_le (a := 10) (by decide) (by decide))]
    exact mArcs_e hc hfu _
def d3 (M : Nat → Int32) (n q : Nat) : Int64 := dg (fun j => M (88 + j)) (mx (d2 M (mx (mx (mx 17 (M 0)) (M 1)) (nI n)) n) (nI q)) (q * 4)
theorem cHash_e (hR : Rel R M n) {q : Nat} (hq : q ≤ 10) (h3 : M 3 = nI q) (hfu : 50 < fu) : fX1_hash fu R = some (d3 M n q) := by
  have hn4 := hR.1
  have h3' : R 3 = nI q := hR.2.2.2.2.2.1.trans h3
  unfold fX1_hash
  rw [rdk0, rdk1, rdk2, hR.2.2.2.1, hR.2.2.2.2.1, hR.2.1, Option.bind_some, Option.bind_some, Option.bind_some]
  refine lp_go (body := fX1_hash_L48 fu R) (fun j => (d2 M (mx (mx (mx 17 (M 0)) (M 1)) (nI n)) j, nI j)) n _ (by omega) ?_ ?_
  · intro j hj
    unfold fX1_hash_L48
    simp only [rdk2, hR.2.1, Option.bind_some, if_neg (q_nle hj (show n < 2 ^ 31 by omega)), cCraneHash_e hR hj (show 12 < fu by omega), nI_1]
    rfl
  · unfold fX1_hash_L48
    simp only [rdk2, hR.2.1, Option.bind_some, if_pos (q_le (Nat.le_refl n) (show n < 2 ^ 31 by omega)), rdk3, h3']
    have e4 : (92 : Int32) + (nI q * (4 : Int32)) = nI (92 + q * 4) := by
      show nI 92 + (nI q * nI 4) = _
      rw [pk_mul, nI_add]
    refine lp_go (body := fX1_hash_L88 R) (fun j => (dg (fun j => M (88 + j)) (mx (d2 M (mx (mx (mx 17 (M 0)) (M 1)) (nI n)) n) (nI q)) j, nI (92 + j))) (q * 4) _ (by omega) ?_ ?_
    · intro j hj
      unfold fX1_hash_L88
      simp only [rdk3, h3', Option.bind_some, e4, if_neg (q_nle (show 92 + j < 92 + q * 4 by omega) (show 92 + q * 4 < 2 ^ 31 by omega)), rd_n (f := R) (show 92 + j < 132 by omega) (by decide), hR.2.2.2.2.2.2.1 j (by omega), nI_1]
      rfl
    · unfold fX1_hash_L88
      simp only [rdk3, h3', Option.bind_some, e4, if_pos (q_le (Nat.le_refl (92 + q * 4)) (show 92 + q * 4 < 2 ^ 31 by omega))]
      rfl
theorem mHash_e (hn : n ≤ 4) (h2 : M 2 = nI n) {q : Nat} (hq : q ≤ 10) (h3 : M 3 = nI q) (hfu : 50 < fu) : fX4_digest fu M = some (d3 M n q, d3 M n q) := by
  unfold fX4_digest
  rw [rdm0, rdm1, rdm2, h2, Option.bind_some, mixes_e, Option.bind_some, Option.bind_some, mixes_e, Option.bind_some, Option.bind_some, mixes_e, Option.bind_some]
  refine lp_go (body := fX4_digest_L39 fu M) (fun j => (d2 M (mx (mx (mx 17 (M 0)) (M 1)) (nI n)) j, nI j)) n _ (by omega) ?_ ?_
  · intro j hj
    unfold fX4_digest_L39
    simp only [rdm2, h2, Option.bind_some, if_neg (q_nle hj (show n < 2 ^ 31 by omega)), mCraneHash_e (M := M) (show j < 4 by omega) (show 12 < fu by omega)]
    rfl
  · unfold fX4_digest_L39
    simp only [rdm2, h2, Option.bind_some, if_pos (q_le (Nat.le_refl n) (show n < 2 ^ 31 by omega)), rdm3, h3, mixes_e]
    have e4 : (4 : Int32) * nI q = nI (q * 4) := by
      show nI 4 * nI q = _
      rw [pk_mul, Nat.mul_comm]
    refine lp_go (body := fX4_digest_L118 M) (fun j => (dg (fun j => M (88 + j)) (mx (d2 M (mx (mx (mx 17 (M 0)) (M 1)) (nI n)) n) (nI q)) j, nI j)) (q * 4) _ (by omega) ?_ ?_
    · intro j hj
      have e88 : (88 : Int32) + nI j = nI (88 + j) := nI_add 88 j
      unfold fX4_digest_L118
      simp only [rdm3, h3, Option.bind_some, e4, if_neg (q_nle hj (show q * 4 < 2 ^ 31 by omega)), e88, rd_n (f := M) (show 88 + j < 896 by omega) (by decide), mixes_e, nI_1]
      rfl
    · unfold fX4_digest_L118
      simp only [rdm3, h3, Option.bind_some, e4, if_pos (q_le (Nat.le_refl (q * 4)) (show q * 4 < 2 ^ 31 by omega))]
      rfl
theorem digest_p (hfu : 2000 < fu) (h : INV R HR HS HN M SV) : ∃ v, fX3_digest fu R = some v ∧ fX4_digest fu M = some (v, v) := by
  obtain ⟨n, p, sv, hR, hW, hH, -, -, -⟩ := h
  obtain ⟨q, hq, h3⟩ := hW.2.1
  refine ⟨d3 M n q, ?_, mHash_e hR.1 hR.2.2.1 hq h3 (by omega)⟩
  unfold fX3_digest
  rw [cHash_e hR hq h3 (by omega)]
  rfl
end READF
