/-! what a state means, in the reference's places; the reference's small functions -/
def cont (M : Nat → Int32) (c z : Nat) (a : Int32) : Bool := if F M c (9 + 2 * z) = (-100 : Int32) then false else if (jrem ((F M c (9 + 2 * z + 1) - F M c (9 + 2 * z)) + (36 : Int32)) (36 : Int32)) < (jrem ((a - F M c (9 + 2 * z)) + (36 : Int32)) (36 : Int32)) then false else true
def hasA (M : Nat → Int32) (c z : Nat) : Bool := if F M c (9 + 2 * z) = (-100 : Int32) then false else true
def nxt (M : Nat → Int32) (c : Nat) : Int32 := jrem ((F M c 0 + F M c 4) + (36 : Int32)) (36 : Int32)
def ons (M : Nat → Int32) (c : Nat) : Bool := if F M c 5 ≤ (0 : Int32) then false else true
def hasT (M : Nat → Int32) (c : Nat) : Bool := if F M c 3 = (-100 : Int32) then false else true
def lft (M : Nat → Int32) (c : Nat) : Bool := if F M c 7 = (1 : Int32) then true else false
def occ (M : Nat → Int32) (c z : Nat) : Bool := cont M c z (F M c 0) || ((ons M c && cont M c z (nxt M c)) || (lft M c && hasA M c z))
def anyN (p : Nat → Bool) : Nat → Bool
  | 0 => false
  | n + 1 => anyN p n || p n
theorem anyN_iff (p : Nat → Bool) (n : Nat) : anyN p n = true ↔ ∃ i, i < n ∧ p i = true := by
  induction n with
  | zero => simp [anyN]
  | succ n ih =>
    simp only [anyN, Bool.or_eq_true, ih]
    constructor
    · rintro (⟨i, h1, h2⟩ | h)
      · exact ⟨i, by omega, h2⟩
      · exact ⟨n, by omega, h⟩
    · rintro ⟨i, h1, h2⟩
      by_cases e : i = n
      · subst e; exact Or.inr h2
      · exact Or.inl ⟨i, by omega, h2⟩
def lowf (P : Nat → Bool) : Nat → Int32 → Int32
  | 0, d => d
  | n + 1, d => lowf P n (if P n = true then nI n else d)
def iwP (M : Nat → Int32) (c o : Nat) : Bool := anyN (fun z => (decide (o ≠ c) && cont M c z (nxt M c)) && occ M o z) 6
def inw (M : Nat → Int32) (n c : Nat) : Int32 := lowf (iwP M c) n (-100)
def blk (M : Nat → Int32) (n c : Nat) : Bool := hasT M c && (!ons M c && decide (inw M n c ≠ -100))
def stTo (M : Nat → Int32) (c : Nat) (a w : Int32) : Int32 := jrem ((w * (a - F M c 0)) + (36 : Int32)) (36 : Int32)
def noT (M : Nat → Int32) (c : Nat) : Nat → Int32 := setF (setF M c 3 (-100)) c 4 0
def stp3 (M : Nat → Int32) (c : Nat) : Nat → Int32 := setF (setF (setF M c 0 (nxt M c)) c 5 0) c 8 (F M c 8 + 1)
def stp (M : Nat → Int32) (c : Nat) : Nat → Int32 := if nxt M c = F M c 3 then noT (stp3 M c) c else stp3 M c
def wnd (M : Nat → Int32) (c : Nat) : Int32 := if stTo M c (M 1) 1 = (0 : Int32) then jrem (F M c 0 + (36 : Int32)) (36 : Int32) else if (18 : Int32) < stTo M c (M 1) 1 then jrem (F M c 0 + (35 : Int32)) (36 : Int32) else jrem (F M c 0 + (37 : Int32)) (36 : Int32)
def prg (M : Nat → Int32) (c : Nat) : Nat → Int32 := setF M c 5 (F M c 5 + 1)
def turn (M : Nat → Int32) (n c : Nat) : Nat → Int32 := if lft M c = true then setF M c 0 (wnd M c) else if blk M n c = true then setF M c 6 (F M c 6 + 1) else if hasT M c = true then (if F M c 5 + 1 = F M c 1 then stp (prg M c) c else prg M c) else M
def tkC (M : Nat → Int32) (n : Nat) (p : Int32) : Nat → Nat → Int32
  | 0 => M
  | j + 1 => if F (tkC M n p j) j 2 = p then turn (tkC M n p j) n j else tkC M n p j
def tkP (M : Nat → Int32) (n : Nat) : Nat → Nat → Int32
  | 0 => M
  | k + 1 => tkC (tkP M n k) n (nI (9 - k)) n
def tickM (M : Nat → Int32) (n : Nat) : Nat → Int32 := upd (tkP M n 10) 0 (tkP M n 10 0 + 1)
theorem of_toInt {x : Int32} {n : Nat} (h : 0 ≤ x.toInt ∧ x.toInt < n) (hn : n ≤ 2 ^ 31) : ∃ j, j < n ∧ x = nI j := by
  refine ⟨x.toInt.toNat, by omega, ?_⟩
  apply Int32.toInt_inj.mp
  rw [nI_toInt (by omega)]
  omega
section EV
variable {M : Nat → Int32} {c z : Nat}
theorem lft_iff : F M c 7 = 1 ↔ lft M c = true := by
  unfold lft
  split <;> simp_all
theorem q_m1 (x : Int32) : x + (-1 : Int32) = x - 1 := (Int32.sub_eq_add_neg x 1).symm
end EV

