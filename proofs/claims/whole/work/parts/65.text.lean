/-! the text -/
def sk (tx : Nat → Int32) : Nat → Nat → Nat
  | 0, p => p
  | r + 1, p => if tx p = (32 : Int32) then sk tx r (p + 1) else p
def skp (tx : Nat → Int32) (l p : Nat) : Nat := sk tx (l - p) p
def byt (tx : Nat → Int32) (l p : Nat) : Int32 := if p < l then tx p else -1
section TEXT
variable {tx : Nat → Int32} {l fu : Nat}
theorem sk_ge : ∀ (r p : Nat), p ≤ sk tx r p ∧ sk tx r p ≤ p + r ∧ (sk tx r p < p + r → ¬ tx (sk tx r p) = (32 : Int32)) := by
  intro r
  induction r with
  | zero => intro p; exact ⟨Nat.le_refl _, Nat.le_refl _, fun h => absurd h (Nat.lt_irrefl _)⟩
  | succ r ih =>
    intro p
    obtain ⟨h1, h2, h3⟩ := ih (p + 1)
    unfold sk
    by_cases e : tx p = (32 : Int32)
    · rw [if_pos e]
      exact ⟨by omega, by omega, fun h => h3 (by omega)⟩
    · rw [if_neg e]
      exact ⟨by omega, by omega, fun _ => e⟩
theorem skp_ge {p : Nat} (h : p ≤ l) : p ≤ skp tx l p ∧ skp tx l p ≤ l := by
  obtain ⟨h1, h2, -⟩ := sk_ge (tx := tx) (l - p) p
  unfold skp
  omega
theorem skp_idem {p : Nat} (h : p ≤ l) : skp tx l (skp tx l p) = skp tx l p := by
  obtain ⟨h1, h2, h3⟩ := sk_ge (tx := tx) (l - p) p
  have h4 := skp_ge (tx := tx) h
  by_cases e : skp tx l p = l
  · unfold skp at *
    rw [e, Nat.sub_self]
    rfl
  · have h5 : ¬ tx (skp tx l p) = (32 : Int32) := h3 (by unfold skp at *; omega)
    generalize skp tx l p = s at *
    unfold skp
    obtain ⟨d, hd⟩ : ∃ d, l - s = d + 1 := ⟨l - s - 1, by omega⟩
    rw [hd]
    unfold sk
    rw [if_neg h5]
theorem cSkip_loop (hl : l ≤ 80) : ∀ (r p m : Nat), p + r = l → r < m → lp (fX2_skipBlanks_L0 tx (nI l)) m (nI p) = some (nI (sk tx r p)) := by
  intro r
  induction r with
  | zero =>
    intro p m hp hm
    obtain ⟨m, rfl⟩ : ∃ q, m = q + 1 := ⟨m - 1, by omega⟩
    refine lp_inr ?_
    unfold fX2_skipBlanks_L0
    rw [if_pos (q_le (show l ≤ p by omega) (show p < 2 ^ 31 by omega))]
    rfl
  | succ r ih =>
    intro p m hp hm
    obtain ⟨m, rfl⟩ : ∃ q, m = q + 1 := ⟨m - 1, by omega⟩
    have hb : fX2_skipBlanks_L0 tx (nI l) (nI p) = (if tx p = (32 : Int32) then some (.inl (nI (p + 1))) else some (.inr (nI p))) := by
      unfold fX2_skipBlanks_L0
      rw [if_neg (q_nle (show p < l by omega) (show l < 2 ^ 31 by omega)), rd_n (by omega) (by decide), Option.bind_some, nI_1]
    unfold sk
    by_cases e : tx p = (32 : Int32)
    · rw [if_pos e] at hb ⊢
      rw [lp_inl hb]
      exact ih (p + 1) m (by omega) (by omega)
    · rw [if_neg e] at hb ⊢
      exact lp_inr hb
theorem cSkip_e (hl : l ≤ 80) (hfu : 90 < fu) {p : Nat} (hp : p ≤ l) : fX2_skipBlanks fu tx (nI l) (nI p) = some (nI (skp tx l p)) := cSkip_loop hl (l - p) p fu (by omega) (by omega)
theorem cByte_e (hl : l ≤ 80) {p : Nat} (hp : p ≤ l) : fX2_byteHere tx (nI l) (nI p) = some (byt tx l p) := by
  unfold fX2_byteHere byt
  by_cases e : p < l
  · rw [if_neg (q_nle e (show l < 2 ^ 31 by omega)), if_pos e, rd_n (by omega) (by decide)]
    rfl
  · rw [if_pos (q_le (show l ≤ p by omega) (show p < 2 ^ 31 by omega)), if_neg e]
theorem mHere_loop (hl : l ≤ 80) : ∀ (r p m : Nat), p + r = l → r < m → lp (fX4_here_L0 tx (nI l)) m (nI p) = some (byt tx l (sk tx r p), nI (sk tx r p)) := by
  intro r
  induction r with
  | zero =>
    intro p m hp hm
    obtain ⟨m, rfl⟩ : ∃ q, m = q + 1 := ⟨m - 1, by omega⟩
    refine lp_inr ?_
    have h1 := q_le (show l ≤ p by omega) (show p < 2 ^ 31 by omega)
    unfold fX4_here_L0 sk byt
    rw [if_pos h1, if_pos h1, if_neg (by omega)]
  | succ r ih =>
    intro p m hp hm
    obtain ⟨m, rfl⟩ : ∃ q, m = q + 1 := ⟨m - 1, by omega⟩
    have h1 := q_nle (show p < l by omega) (show l < 2 ^ 31 by omega)
    have hb : fX4_here_L0 tx (nI l) (nI p) = (if tx p = (32 : Int32) then some (.inl (nI (p + 1))) else some (.inr (tx p, nI p))) := by
      unfold fX4_here_L0
      rw [if_neg h1, if_neg h1, rd_n (by omega) (by decide), Option.bind_some, Option.bind_some, nI_1]
    unfold sk
    by_cases e : tx p = (32 : Int32)
    · rw [if_pos e] at hb ⊢
      rw [lp_inl hb]
      exact ih (p + 1) m (by omega) (by omega)
    · rw [if_neg e] at hb ⊢
      unfold byt
      rw [if_pos (by omega)]
      exact lp_inr hb
theorem mHere_e (hl : l ≤ 80) (hfu : 90 < fu) {p : Nat} (hp : p ≤ l) : fX4_here fu tx (nI l) (nI p) = some (byt tx l (skp tx l p), nI (skp tx l p)) := mHere_loop hl (l - p) p fu (by omega) (by omega)
/-! the angle -/
def isD (tx : Nat → Int32) (l p : Nat) : Prop := p < l ∧ (48 : Int32).toInt ≤ (tx p).toInt ∧ (tx p).toInt ≤ (57 : Int32).toInt
noncomputable def exC (v kk pp : Int32) : Option ((Int32 × Int32 × Int32) ⊕ (Int32 × Int32)) := if kk < (1 : Int32) then (some (.inr ((-1 : Int32), pp))) else (if (2 : Int32) < kk then (some (.inr ((-1 : Int32), pp))) else (Option.bind (fX3_isAngle v) fun v4 => if v4 = true then (some (.inr (v, pp))) else (some (.inr ((-1 : Int32), pp)))))
theorem L4_no (hl : l ≤ 80) {p : Nat} (hp : p ≤ l) (h : ¬ isD tx l p) (v kk : Int32) : fX2_readAngle_L4 tx (nI l) (nI p, v, kk) = exC v kk (nI p) := by
  unfold fX2_readAngle_L4
  by_cases e : p < l
  · simp only [if_neg (q_nle e (show l < 2 ^ 31 by omega)), rd_n (show p < 80 by omega) (show 80 < 2 ^ 31 by decide), Option.bind_some]
    by_cases h1 : tx p < (48 : Int32)
    · rw [if_pos h1]; rfl
    · rw [if_neg h1]
      by_cases h2 : (57 : Int32) < tx p
      · rw [if_pos h2]; rfl
      · exact absurd ⟨e, by rw [Int32.lt_iff_toInt_lt] at h1; omega, by rw [Int32.lt_iff_toInt_lt] at h2; omega⟩ h
  · simp only [if_pos (q_le (show l ≤ p by omega) (show p < 2 ^ 31 by omega))]
    rfl
theorem L4_yes (hl : l ≤ 80) {p : Nat} (h : isD tx l p) (v kk : Int32) : fX2_readAngle_L4 tx (nI l) (nI p, v, kk) = some (.inl (nI (p + 1), (if (2 : Int32) ≤ kk then v else (((10 : Int32) * v) + tx p) - (48 : Int32)), kk + 1)) := by
  obtain ⟨e, h1, h2⟩ := h
  have h1' : ¬ tx p < (48 : Int32) := by rw [Int32.lt_iff_toInt_lt]; omega
  have h2' : ¬ (57 : Int32) < tx p := by rw [Int32.lt_iff_toInt_lt]; omega
  unfold fX2_readAngle_L4
  simp only [if_neg (q_nle e (show l < 2 ^ 31 by omega)), rd_n (show p < 80 by omega) (show 80 < 2 ^ 31 by decide), Option.bind_some, if_neg h1', if_neg h2', nI_1]
  split <;> rfl
def wayM (y3 : Int32) : Int32 := if y3 = (62 : Int32) then 1 else if y3 = (60 : Int32) then -1 else 0
noncomputable def exM (M : Nat → Int32) (MA : Int32) (y1 : Bool) (y2 y3 pp v : Int32) : Option ((Int32 × Int32) ⊕ (Bool × (Nat → Int32) × Int32)) := if pp = MA then (some (.inr (false, M, MA))) else (if (2 : Int32) < (pp - MA) then (some (.inr (false, M, MA))) else (if v ≤ (35 : Int32) then (if y1 = true then (Option.bind (fX4_aims M y2 v (wayM y3)) fun v25 => some (.inr (true, v25.2, pp))) else (some (.inr (true, M, pp)))) else (some (.inr (false, M, MA)))))
theorem way_fold {α : Type} (f : Int32 → α) (y3 : Int32) : (if y3 = (62 : Int32) then f 1 else if y3 = (60 : Int32) then f (-1) else f 0) = f (wayM y3) := by
  unfold wayM
  split
  · rfl
  · split <;> rfl
theorem L86_no (hl : l ≤ 80) (hx : ∀ j, j < l → 0 ≤ (tx j).toInt) {s p : Nat} (hs : s ≤ p) (hp : p ≤ l) (h : ¬ isD tx l p) (M : Nat → Int32) (MA : Int32) (y1 : Bool) (y2 y3 v : Int32) : fX4_readsCommand_L86 M tx (nI l) MA y1 y2 y3 (byt tx l s) (nI p, v) = exM M MA y1 y2 y3 (nI p) v := by
  have hw : ∀ pp : Int32, (if y3 = (62 : Int32) then (Option.bind (fX4_aims M y2 v (1 : Int32)) fun v25 => some (Sum.inr (α := Int32 × Int32) (true, v25.2, pp))) else (if y3 = (60 : Int32) then (Option.bind (fX4_aims M y2 v (-1 : Int32)) fun v23 => some (.inr (true, v23.2, pp))) else (Option.bind (fX4_aims M y2 v (0 : Int32)) fun v21 => some (.inr (true, v21.2, pp))))) = Option.bind (fX4_aims M y2 v (wayM y3)) fun v25 => some (.inr (true, v25.2, pp)) := fun pp => way_fold (fun w => Option.bind (fX4_aims M y2 v w) fun v25 => some (Sum.inr (α := Int32 × Int32) (true, v25.2, pp))) y3
  unfold fX4_readsCommand_L86 exM
  by_cases hb : byt tx l s < (0 : Int32)
  · simp only [if_pos hb, hw]
  · by_cases e : p < l
    · have hin : ¬ ((48 : Int32).toInt ≤ (tx p).toInt ∧ (tx p).toInt ≤ (57 : Int32).toInt) := fun q => h ⟨e, q⟩
      simp only [if_neg hb, if_neg (q_nle e (show l < 2 ^ 31 by omega)), rd_n (show p < 80 by omega) (show 80 < 2 ^ 31 by decide), Option.bind_some, in_e, decide_eq_false hin, Bool.false_eq_true, if_false, hw]
    · simp only [if_neg hb, if_pos (q_le (show l ≤ p by omega) (show p < 2 ^ 31 by omega)), hw]
theorem L86_yes (hl : l ≤ 80) (hx : ∀ j, j < l → 0 ≤ (tx j).toInt) {s p : Nat} (hs : s ≤ p) (h : isD tx l p) (M : Nat → Int32) (MA : Int32) (y1 : Bool) (y2 y3 v : Int32) : fX4_readsCommand_L86 M tx (nI l) MA y1 y2 y3 (byt tx l s) (nI p, v) = some (.inl (nI (p + 1), if (3 : Int32) ≤ nI p - MA then v else (((10 : Int32) * v) + tx p) - (48 : Int32))) := by
  obtain ⟨e, h1⟩ := h
  have hb : ¬ byt tx l s < (0 : Int32) := by
    unfold byt
    rw [if_pos (by omega), Int32.lt_iff_toInt_lt]
    have := hx s (by omega)
    show ¬ (tx s).toInt < 0
    omega
  unfold fX4_readsCommand_L86
  simp only [if_neg hb, if_neg (q_nle e (show l < 2 ^ 31 by omega)), rd_n (show p < 80 by omega) (show 80 < 2 ^ 31 by decide), Option.bind_some, in_e, decide_eq_true h1, if_true, nI_1]
  split <;> rfl
theorem dig_val {x : Int32} {a : Nat} (ha : a < 10) (h1 : (48 : Int32).toInt ≤ x.toInt) (h2 : x.toInt ≤ (57 : Int32).toInt) : ∃ b, b < 10 * a + 10 ∧ (((10 : Int32) * nI a) + x) - (48 : Int32) = nI b := by
  have h1' : 48 ≤ x.toInt := h1
  have h2' : x.toInt ≤ 57 := h2
  obtain ⟨j, hj, rfl⟩ := of_toInt (x := x) (n := 58) (by omega) (by decide)
  have hj48 : 48 ≤ j := by
    rw [nI_toInt (by omega)] at h1'
    omega
  refine ⟨10 * a + (j - 48), by omega, ?_⟩
  have e : (10 : Int32) * nI a = nI (10 * a) := pk_mul 10 a
  rw [e, nI_add]
  have e2 : nI (10 * a + j) - nI 48 = nI (10 * a + j - 48) := pk_sub (by omega)
  show nI (10 * a + j) - nI 48 = _
  rw [e2]
  congr 1
  omega
end TEXT
