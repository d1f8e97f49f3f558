/-! the calls that only read -/
def prp (M : Nat → Int32) (c w : Nat) : Int32 := if w = 8 then msk (occ M c) 6 else if w = 9 then F M c 8 else F M c w
section READS
variable {R HR M : Nat → Int32} {HS HN SV : Int32} {fu n c : Nat}
theorem cProp_e (hR : Rel R M n) (hc : c < n) (hfu : 12 < fu) {w : Nat} (hw : w < 10) : fX1_property fu R (nI c) (nI w) = some (prp M c w) := by
  have hc4 := hR.lt hc
  have e : (4 : Int32) + (nI w * (4 : Int32)) = nI (4 + w * 4) := by
    show nI 4 + (nI w * nI 4) = _
    rw [pk_mul, nI_add]
  unfold fX1_property prp
  rw [e]
  by_cases h8 : w = 8
  · subst h8
    rw [if_pos (show nI (4 + 8 * 4) = (36 : Int32) from rfl), if_pos rfl, cZonesOcc_e hR hc hfu]
    rfl
  · rw [if_neg (show ¬ nI (4 + w * 4) = (36 : Int32) from q_ne (b := 36) (by omega) (by omega) (by decide)), if_neg h8, nI_add, rd_n (by omega) (by decide)]
    by_cases h9 : w = 9
    · subst h9
      rw [if_pos rfl, ← hR.f hc 8 (by decide), ix_8]
      rfl
    · rw [if_neg h9, ← hR.f hc w (by omega)]
      have : ix c w = 4 + w * 4 + c := by
        unfold ix
        rw [if_pos (by omega)]
        omega
      rw [this]
      rfl
/-! cycles -/
theorem inw_cases (M : Nat → Int32) (n c : Nat) : inw M n c = -100 ∨ ∃ o, o < n ∧ inw M n c = nI o := by
  unfold inw
  have : ∀ (n : Nat) (d : Int32) (P : Int32 → Prop), (∀ o, o < n → P (nI o)) → P d → P (lowf (iwP M c) n d) := by
    intro n
    induction n with
    | zero => intro d P _ h; exact h
    | succ n ih =>
      intro d P h hd
      unfold lowf
      refine ih _ P (fun o ho => h o (by omega)) ?_
      split
      · exact h n (by omega)
      · exact hd
  exact this n (-100) (fun x => x = -100 ∨ ∃ o, o < n ∧ x = nI o) (fun o ho => Or.inr ⟨o, ho, rfl⟩) (Or.inl rfl)
noncomputable def nb (M : Nat → Int32) (n a : Nat) : Option Nat := if blk M n a = true then (if h : ∃ o, o < n ∧ inw M n a = nI o then some h.choose else none) else none
theorem nb_e (M : Nat → Int32) (n a : Nat) : (nb M n a = none ∧ (if blk M n a = true then inw M n a else (-100 : Int32)) = -100) ∨ ∃ o, o < n ∧ nb M n a = some o ∧ (if blk M n a = true then inw M n a else (-100 : Int32)) = nI o := by
  unfold nb
  by_cases hb : blk M n a = true
  · rw [if_pos hb, if_pos hb]
    by_cases h : ∃ o, o < n ∧ inw M n a = nI o
    · rw [dif_pos h]
      exact Or.inr ⟨h.choose, h.choose_spec.1, rfl, h.choose_spec.2⟩
    · rw [dif_neg h]
      exact Or.inl ⟨rfl, (inw_cases M n a).elim id (fun q => absurd q h)⟩
  · rw [if_neg hb, if_neg hb]
    exact Or.inl ⟨rfl, rfl⟩
noncomputable def cyc (M : Nat → Int32) (n c : Nat) : Nat → Nat → Bool
  | 0, _ => false
  | r + 1, a => match nb M n a with
    | none => false
    | some o => if o = c then true else cyc M n c r o
theorem cCyc_loop {c : Nat} (hR : Rel R M n) (hc : c < n) (hfu : 12 < fu) : ∀ (r k m a : Nat), k + r = 4 → r < m → a < n → lp (fX1_blockersLeadBackTo_L4 fu R (nI c)) m (nI a, nI k) = some (cyc M n c r a) := by
  have hn4 := hR.1
  intro r
  induction r with
  | zero =>
    intro k m a hk hm ha
    obtain ⟨m, rfl⟩ : ∃ q, m = q + 1 := ⟨m - 1, by omega⟩
    refine lp_inr ?_
    unfold fX1_blockersLeadBackTo_L4
    have : k = 4 := by omega
    subst this
    rw [if_pos (show (4 : Int32) ≤ nI 4 from q_le (a := 4) (by decide) (by decide))]
    rfl
  | succ r ih =>
    intro k m a hk hm ha
    obtain ⟨m, rfl⟩ : ∃ q, m = q + 1 := ⟨m - 1, by omega⟩
    have hk4 : ¬ (4 : Int32) ≤ nI k := q_nle (a := 4) (by omega) (by decide)
    have hneg : ∀ o, o < 4 → ¬ nI o = (-100 : Int32) := by decide
    rcases nb_e M n a with ⟨h1, h2⟩ | ⟨o, ho, h1, h2⟩
    · refine lp_inr ?_
      unfold fX1_blockersLeadBackTo_L4 cyc
      simp only [if_neg hk4, cBlockerOf_e hR ha hfu, h2, Option.bind_some, if_true, h1, if_neg (show ¬ (-100 : Int32) = nI c from fun q => hneg c (by omega) q.symm)]
    · by_cases e : o = c
      · subst e
        refine lp_inr ?_
        unfold fX1_blockersLeadBackTo_L4 cyc
        simp only [if_neg hk4, cBlockerOf_e hR ha hfu, h2, Option.bind_some, if_neg (hneg o (by omega)), if_true, h1]
      · have hb : fX1_blockersLeadBackTo_L4 fu R (nI c) (nI a, nI k) = some (.inl (nI o, nI (k + 1))) := by
          unfold fX1_blockersLeadBackTo_L4
          simp only [if_neg hk4, cBlockerOf_e hR ha hfu, h2, Option.bind_some, if_neg (hneg o (by omega)), if_neg (q_ne e (show o < 2 ^ 31 by omega) (show c < 2 ^ 31 by omega)), nI_1]
        rw [lp_inl hb, ih (k + 1) m o (by omega) (by omega) ho]
        show _ = some (match nb M n a with | none => false | some o => if o = c then true else cyc M n c r o)
        rw [h1]
        simp only [if_neg e]
end READS

