/-! the foretelling calls, and the digest -/
section READF
variable {R HR M T : Nat → Int32} {HS HN SV : Int32} {fu : Nat}
/-! the digest -/
def mx (h : Int64) (v : Int32) : Int64 := ((31 : Int64) * h) + (Int32.toInt64 v)
def dg (f : Nat → Int32) (h : Int64) : Nat → Int64
  | 0 => h
  | i + 1 => mx (dg f h i) (f i)
def d1 (M : Nat → Int32) (c : Nat) (h : Int64) : Int64 := dg (fun k => F M c (9 + k)) (dg (prp M c) h 10) 12
def d2 (M : Nat → Int32) (h : Int64) : Nat → Int64
  | 0 => h
  | c + 1 => d1 M c (d2 M h c)
variable {n : Nat}
theorem cArcs_e (hR : Rel R M n) {c : Nat} (hc : c < n) (hfu : 12 < fu) (h : Int64) : lp (fX1_hashWithCrane_L39 R (nI c)) fu (h, (0 : Int32)) = some (.inr (dg (fun k => F M c (9 + k)) h 12)) := by
  have hc4 := hR.lt hc
  refine lp_go (body := fX1_hashWithCrane_L39 R (nI c)) (fun j => (dg (fun k => F M c (9 + k)) h (2 * j), nI j)) 6 _ (by omega) ?_ ?_
  · intro z hz
    unfold fX1_hashWithCrane_L39 fX1_firstOf fX1_lastOf
    simp only [if_neg (show ¬ (6 : Int32) ≤ nI z from q_nle (a := 6) hz (by decide)), rd44 hc4 hz, rd68 hc4 hz, hR.f hc (9 + 2 * z) (by omega), hR.f hc (9 + 2 * z + 1) (by omega), Option.bind_some, nI_1]
    rfl
  · unfold fX1_hashWithCrane_L39
    simp only [if_pos (show (6 : Int32) ≤ nI 6 from q_le (a := 6) (by decide) (by decide))]
theorem cCraneHash_e (hR : Rel R M n) {c : Nat} (hc : c < n) (hfu : 12 < fu) (h : Int64) : fX1_hashWithCrane fu R h (nI c) = some (d1 M c h) := by
  refine lp_go (body := fX1_hashWithCrane_L6 fu R (nI c)) (fun j => (dg (prp M c) h j, nI j)) 10 _ (by omega) ?_ ?_
  · intro w hw
    unfold fX1_hashWithCrane_L6
    simp only [if_neg (show ¬ (10 : Int32) ≤ nI w from q_nle (a := 10) hw (by decide)), cProp_e hR hc hfu hw, Option.bind_some, nI_1]
    rfl
  · unfold fX1_hashWithCrane_L6
    simp only [if_pos (show (10 : Int32) ≤ nI 10 from q_le (a := 10) (by decide) (by decide))]
    exact cArcs_e hR hc hfu _
def d3 (M : Nat → Int32) (n q : Nat) : Int64 := dg (fun j => M (88 + j)) (mx (d2 M (mx (mx (mx 17 (M 0)) (M 1)) (nI n)) n) (nI q)) (q * 4)
theorem cHash_e (hR : Rel R M n) {q : Nat} (hq : q ≤ 10) (h3 : M 3 = nI q) (hfu : 50 < fu) : fX1_hash fu R = some (d3 M n q) := by
  have hn4 := hR.1
  have h3' : R 3 = nI q := hR.2.2.2.2.2.1.trans h3
  unfold fX1_hash
  rw [rdk0, rdk1, rdk2, hR.2.2.2.1, hR.2.2.2.2.1, hR.2.1, Option.bind_some, Option.bind_some, Option.bind_some]
  refine lp_go (body := fX1_hash_L48 fu R) (fun j => (d2 M (mx (mx (mx 17 (M 0)) (M 1)) (nI n)) j, nI j)) n _ (by omega) ?_ ?_
  · intro j hj
    unfold fX1_hash_L48
    simp only [rdk2, hR.2.1, Option.bind_some, if_neg (q_nle hj (show n < 2 ^ 31 by omega)), cCraneHash_e hR hj (show 12 < fu by omega), nI_1]
    rfl
  · unfold fX1_hash_L48
    simp only [rdk2, hR.2.1, Option.bind_some, if_pos (q_le (Nat.le_refl n) (show n < 2 ^ 31 by omega)), rdk3, h3']
    have e4 : (92 : Int32) + (nI q * (4 : Int32)) = nI (92 + q * 4) := by
      show nI 92 + (nI q * nI 4) = _
      rw [pk_mul, nI_add]
    refine lp_go (body := fX1_hash_L88 R) (fun j => (dg (fun j => M (88 + j)) (mx (d2 M (mx (mx (mx 17 (M 0)) (M 1)) (nI n)) n) (nI q)) j, nI (92 + j))) (q * 4) _ (by omega) ?_ ?_
    · intro j hj
      unfold fX1_hash_L88
      simp only [rdk3, h3', Option.bind_some, e4, if_neg (q_nle (show 92 + j < 92 + q * 4 by omega) (show 92 + q * 4 < 2 ^ 31 by omega)), rd_n (f := R) (show 92 + j < 132 by omega) (by decide), hR.2.2.2.2.2.2.1 j (by omega), nI_1]
      rfl
    · unfold fX1_hash_L88
      simp only [rdk3, h3', Option.bind_some, e4, if_pos (q_le (Nat.le_refl (92 + q * 4)) (show 92 + q * 4 < 2 ^ 31 by omega))]
      rfl
end READF

