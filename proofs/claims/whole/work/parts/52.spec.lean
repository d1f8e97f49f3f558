/-! what a state means, in the reference's places; the reference's small functions -/
def cont (M : Nat → Int32) (c z : Nat) (a : Int32) : Bool := if F M c (9 + 2 * z) = (-100 : Int32) then false else if (jrem ((F M c (9 + 2 * z + 1) - F M c (9 + 2 * z)) + (36 : Int32)) (36 : Int32)) < (jrem ((a - F M c (9 + 2 * z)) + (36 : Int32)) (36 : Int32)) then false else true
def hasA (M : Nat → Int32) (c z : Nat) : Bool := if F M c (9 + 2 * z) = (-100 : Int32) then false else true
def nxt (M : Nat → Int32) (c : Nat) : Int32 := jrem ((F M c 0 + F M c 4) + (36 : Int32)) (36 : Int32)
def ons (M : Nat → Int32) (c : Nat) : Bool := if F M c 5 ≤ (0 : Int32) then false else true
def hasT (M : Nat → Int32) (c : Nat) : Bool := if F M c 3 = (-100 : Int32) then false else true
def lft (M : Nat → Int32) (c : Nat) : Bool := if F M c 7 = (1 : Int32) then true else false
def occ (M : Nat → Int32) (c z : Nat) : Bool := cont M c z (F M c 0) || ((ons M c && cont M c z (nxt M c)) || (lft M c && hasA M c z))
def anyN (p : Nat → Bool) : Nat → Bool
  | 0 => false
  | n + 1 => anyN p n || p n
theorem anyN_iff (p : Nat → Bool) (n : Nat) : anyN p n = true ↔ ∃ i, i < n ∧ p i = true := by
  induction n with
  | zero => simp [anyN]
  | succ n ih =>
    simp only [anyN, Bool.or_eq_true, ih]
    constructor
    · rintro (⟨i, h1, h2⟩ | h)
      · exact ⟨i, by omega, h2⟩
      · exact ⟨n, by omega, h⟩
    · rintro ⟨i, h1, h2⟩
      by_cases e : i = n
      · subst e; exact Or.inr h2
      · exact Or.inl ⟨i, by omega, h2⟩
def lowf (P : Nat → Bool) : Nat → Int32 → Int32
  | 0, d => d
  | n + 1, d => lowf P n (if P n = true then nI n else d)
def iwP (M : Nat → Int32) (c o : Nat) : Bool := anyN (fun z => (decide (o ≠ c) && cont M c z (nxt M c)) && occ M o z) 6
def inw (M : Nat → Int32) (n c : Nat) : Int32 := lowf (iwP M c) n (-100)
def blk (M : Nat → Int32) (n c : Nat) : Bool := hasT M c && (!ons M c && decide (inw M n c ≠ -100))
def stTo (M : Nat → Int32) (c : Nat) (a w : Int32) : Int32 := jrem ((w * (a - F M c 0)) + (36 : Int32)) (36 : Int32)
def noT (M : Nat → Int32) (c : Nat) : Nat → Int32 := setF (setF M c 3 (-100)) c 4 0
def stp3 (M : Nat → Int32) (c : Nat) : Nat → Int32 := setF (setF (setF M c 0 (nxt M c)) c 5 0) c 8 (F M c 8 + 1)
def stp (M : Nat → Int32) (c : Nat) : Nat → Int32 := if nxt M c = F M c 3 then noT (stp3 M c) c else stp3 M c
def wnd (M : Nat → Int32) (c : Nat) : Int32 := if stTo M c (M 1) 1 = (0 : Int32) then jrem (F M c 0 + (36 : Int32)) (36 : Int32) else if (18 : Int32) < stTo M c (M 1) 1 then jrem (F M c 0 + (35 : Int32)) (36 : Int32) else jrem (F M c 0 + (37 : Int32)) (36 : Int32)
def prg (M : Nat → Int32) (c : Nat) : Nat → Int32 := setF M c 5 (F M c 5 + 1)
def turn (M : Nat → Int32) (n c : Nat) : Nat → Int32 := if lft M c = true then setF M c 0 (wnd M c) else if blk M n c = true then setF M c 6 (F M c 6 + 1) else if hasT M c = true then (if F M c 5 + 1 = F M c 1 then stp (prg M c) c else prg M c) else M
def tkC (M : Nat → Int32) (n : Nat) (p : Int32) : Nat → Nat → Int32
  | 0 => M
  | j + 1 => if F (tkC M n p j) j 2 = p then turn (tkC M n p j) n j else tkC M n p j
def tkP (M : Nat → Int32) (n : Nat) : Nat → Nat → Int32
  | 0 => M
  | k + 1 => tkC (tkP M n k) n (nI (9 - k)) n
def tickM (M : Nat → Int32) (n : Nat) : Nat → Int32 := upd (tkP M n 10) 0 (tkP M n 10 0 + 1)
theorem in_e (x a b : Int32) : fX4_in x a b = some (decide (a.toInt ≤ x.toInt ∧ x.toInt ≤ b.toInt)) := by
  unfold fX4_in
  by_cases h1 : x < a
  · rw [if_pos h1]
    have := Int32.lt_iff_toInt_lt.mp h1
    rw [decide_eq_false (by omega)]
  · rw [if_neg h1]
    have h1' : ¬ x.toInt < a.toInt := fun h => h1 (Int32.lt_iff_toInt_lt.mpr h)
    by_cases h2 : b < x
    · rw [if_pos h2]
      have := Int32.lt_iff_toInt_lt.mp h2
      rw [decide_eq_false (by omega)]
    · rw [if_neg h2]
      have h2' : ¬ b.toInt < x.toInt := fun h => h2 (Int32.lt_iff_toInt_lt.mpr h)
      rw [decide_eq_true ⟨by omega, by omega⟩]
theorem of_toInt {x : Int32} {n : Nat} (h : 0 ≤ x.toInt ∧ x.toInt < n) (hn : n ≤ 2 ^ 31) : ∃ j, j < n ∧ x = nI j := by
  refine ⟨x.toInt.toNat, by omega, ?_⟩
  apply Int32.toInt_inj.mp
  rw [nI_toInt (by omega)]
  omega
section EV
variable {M : Nat → Int32} {c z : Nat}
theorem contains_e (hc : c < 4) (hz : z < 6) (a : Int32) : fX4_contains M (nI c) (nI z) a = some (cont M c z a) := by
  unfold fX4_contains cont
  have h1 := of_n (M := M) (k := 9 + 2 * z) hc (by omega)
  have h2 := of_n (M := M) (k := 9 + 2 * z + 1) hc (by omega)
  simp only [q_arc, nI_1, h1, h2, Option.bind_some]
  split
  · rfl
  · split <;> rfl
theorem hasArc_e (hc : c < 4) (hz : z < 6) : fX4_hasArc M (nI c) (nI z) = some (hasA M c z) := by
  unfold fX4_hasArc hasA
  have h1 := of_n (M := M) (k := 9 + 2 * z) hc (by omega)
  simp only [q_arc, h1, Option.bind_some]
  split <;> rfl
theorem nextOf_e (hc : c < 4) : fX4_nextOf M (nI c) = some (nxt M c) := by
  unfold fX4_nextOf nxt
  simp only [of0 hc, of4 hc, Option.bind_some]
theorem isOnStep_e (hc : c < 4) : fX4_isOnStep M (nI c) = some (ons M c) := by
  unfold fX4_isOnStep ons
  simp only [of5 hc, Option.bind_some]
  split <;> rfl
theorem hasTarget_e (hc : c < 4) : fX4_hasTarget M (nI c) = some (hasT M c) := by
  unfold fX4_hasTarget hasT
  simp only [of3 hc, Option.bind_some]
  split <;> rfl
theorem lft_iff : F M c 7 = 1 ↔ lft M c = true := by
  unfold lft
  split <;> simp_all
theorem occupies_e (hc : c < 4) (hz : z < 6) : fX4_occupies M (nI c) (nI z) = some (occ M c z) := by
  unfold fX4_occupies occ
  simp only [of0 hc, of7 hc, contains_e hc hz, isOnStep_e hc, nextOf_e hc, hasArc_e hc hz, Option.bind_some, lft_iff]
  cases cont M c z (F M c 0) <;> cases ons M c <;> cases cont M c z (nxt M c) <;> cases lft M c <;> cases hasA M c z <;> rfl
theorem stepsTo_e (hc : c < 4) (a w : Int32) : fX4_stepsTo M (nI c) a w = some (stTo M c a w) := by
  unfold fX4_stepsTo stTo
  simp only [of0 hc, Option.bind_some]
theorem noTarget_e (hc : c < 4) : fX4_noTarget M (nI c) = some (noT M c) := by
  unfold fX4_noTarget noT
  simp only [sets3 hc, sets4 hc, Option.bind_some]
theorem steps_e (hc : c < 4) : fX4_steps M (nI c) = some (stp M c) := by
  unfold fX4_steps stp
  simp only [nextOf_e hc, sets0 hc, sets5 hc, sets8 hc, of8 hc, of0 hc, of3 hc, noTarget_e hc, Option.bind_some]
  have e8 : F (setF (setF M c 0 (nxt M c)) c 5 0) c 8 = F M c 8 := by rw [F_nk (by decide), F_nk (by decide)]
  rw [e8]
  have e0 : F (setF (setF (setF M c 0 (nxt M c)) c 5 0) c 8 (F M c 8 + 1)) c 0 = nxt M c := by rw [F_nk (by decide), F_nk (by decide), F_same]
  have e3 : F (setF (setF (setF M c 0 (nxt M c)) c 5 0) c 8 (F M c 8 + 1)) c 3 = F M c 3 := by rw [F_nk (by decide), F_nk (by decide), F_nk (by decide)]
  rw [e0, e3]
  unfold stp3
  split <;> rfl
theorem inWay_in (hc : c < 4) {o : Nat} (ho : o < 4) (f0 : Int32) {n : Nat} (hn : 6 < n) : lp (fX4_inWay_L19 M (nI c) (nI o)) n (f0, (0 : Int32)) = some (.inl (if iwP M c o = true then nI o else f0, nI o + (-1 : Int32))) := by
  have hne : ∀ a b : Nat, a < 4 → b < 4 → (nI a = nI b ↔ a = b) := fun a b ha hb => nI_eq (by omega) (by omega)
  refine lp_go (body := fX4_inWay_L19 M (nI c) (nI o)) (fun i => (if anyN (fun z => (decide (o ≠ c) && cont M c z (nxt M c)) && occ M o z) i = true then nI o else f0, nI i)) 6 _ hn ?_ ?_
  · intro i hi
    unfold fX4_inWay_L19
    simp only [if_neg (show ¬ (6 : Int32) ≤ nI i from q_nle (a := 6) hi (by decide)), nextOf_e hc, contains_e hc hi, occupies_e ho hi, Option.bind_some, hne o c ho hc, nI_1, anyN]
    by_cases e : o = c
    · simp [e]
    · simp only [if_neg e]
      by_cases h1 : cont M c i (nxt M c) = true <;> by_cases h2 : occ M o i = true <;> simp [e, h1, h2]
  · unfold fX4_inWay_L19
    simp only [if_pos (show (6 : Int32) ≤ nI 6 from q_le (a := 6) (by decide) (by decide))]
    rfl
theorem q_m1 (x : Int32) : x + (-1 : Int32) = x - 1 := (Int32.sub_eq_add_neg x 1).symm
theorem inWay_out (hc : c < 4) {fu : Nat} (hfu : 6 < fu) : ∀ (m : Nat), m ≤ 4 → ∀ (f0 : Int32) (n : Nat), m < n → lp (fX4_inWay_L12 fu M (nI c)) n (f0, nI m - 1) = some (lowf (iwP M c) m f0) := by
  intro m
  induction m with
  | zero =>
    intro _ f0 n hn
    obtain ⟨n, rfl⟩ : ∃ k, n = k + 1 := ⟨n - 1, by omega⟩
    refine lp_inr ?_
    unfold fX4_inWay_L12
    have h0 : nI 0 - 1 < (0 : Int32) := by decide
    simp only [if_pos h0]
    rfl
  | succ m ih =>
    intro hm f0 n hn
    obtain ⟨n, rfl⟩ : ∃ k, n = k + 1 := ⟨n - 1, by omega⟩
    have hb : fX4_inWay_L12 fu M (nI c) (f0, nI (m + 1) - 1) = some (.inl (if iwP M c m = true then nI m else f0, nI m - 1)) := by
      unfold fX4_inWay_L12
      simp only [nI_pred, if_neg (show ¬ nI m < (0 : Int32) from nI_pos (by omega))]
      rw [inWay_in hc (by omega) f0 hfu, q_m1]
    rw [lp_inl hb]
    exact ih (by omega) _ n (by omega)
theorem inWay_e (hc : c < 4) {fu n : Nat} (hfu : 6 < fu) (hn : n ≤ 4) (h2 : M 2 = nI n) : fX4_inWay fu M (nI c) = some (inw M n c) := by
  unfold fX4_inWay inw
  simp only [rdm2, h2, Option.bind_some]
  exact inWay_out hc hfu n hn (-100) fu (by omega)
theorem isBlocked_e (hc : c < 4) {fu n : Nat} (hfu : 6 < fu) (hn : n ≤ 4) (h2 : M 2 = nI n) : fX4_isBlocked fu M (nI c) = some (blk M n c) := by
  unfold fX4_isBlocked blk
  simp only [hasTarget_e hc, isOnStep_e hc, inWay_e hc hfu hn h2, Option.bind_some]
  cases hasT M c <;> cases ons M c <;> by_cases e : inw M n c = -100 <;> simp [e]
theorem turn_e (hc : c < 4) {fu n : Nat} (hfu : 6 < fu) (hn : n ≤ 4) (h2 : M 2 = nI n) : fX4_turn fu M (nI c) = some (turn M n c) := by
  unfold fX4_turn turn
  simp only [of7 hc, of0 hc, of6 hc, of5 hc, of1 hc, rdm1, stepsTo_e hc, sets0 hc, sets6 hc, sets5 hc, isBlocked_e hc hfu hn h2, hasTarget_e hc, steps_e hc, Option.bind_some, lft_iff]
  have e5 : F (setF M c 5 (F M c 5 + 1)) c 5 = F M c 5 + 1 := F_same
  have e1 : F (setF M c 5 (F M c 5 + 1)) c 1 = F M c 1 := F_nk (by decide)
  rw [e5, e1]
  unfold wnd prg
  cases lft M c <;> cases blk M n c <;> cases hasT M c <;> simp <;> split <;> (try split) <;> rfl
end EV
