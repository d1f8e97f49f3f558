/-! the angle, both sides -/
section TEXTB
variable {tx : Nat → Int32} {l fu : Nat}
def Dbad (tx : Nat → Int32) (l s k : Nat) (a1 a2 : Int32) : Prop := ∃ e : Int32, (∀ m, l < s + k + m → lp (fX2_readAngle_L4 tx (nI l)) m (nI (s + k), a1, nI k) = some (-1, e)) ∧ ∀ (M : Nat → Int32) (y1 : Bool) (y2 y3 : Int32) (m : Nat), l < s + k + m → lp (fX4_readsCommand_L86 M tx (nI l) (nI s) y1 y2 y3 (byt tx l s)) m (nI (s + k), a2) = some (false, M, nI s)
def Dgood (tx : Nat → Int32) (l s k : Nat) (a1 a2 : Int32) : Prop := ∃ t e, t < 36 ∧ s + 1 ≤ e ∧ e ≤ l ∧ (∀ m, l < s + k + m → lp (fX2_readAngle_L4 tx (nI l)) m (nI (s + k), a1, nI k) = some (nI t, nI e)) ∧ ∀ (M : Nat → Int32) (y1 : Bool) (y2 y3 : Int32) (m : Nat), l < s + k + m → lp (fX4_readsCommand_L86 M tx (nI l) (nI s) y1 y2 y3 (byt tx l s)) m (nI (s + k), a2) = if y1 = true then (Option.bind (fX4_aims M y2 (nI t) (wayM y3)) fun v => some (true, v.2, nI e)) else some (true, M, nI e)
theorem digs (hl : l ≤ 80) (hx : ∀ j, j < l → 0 ≤ (tx j).toInt) (s : Nat) : ∀ (r k : Nat) (a1 a2 : Int32), s + k + r = l → (k ≤ 2 → a1 = a2 ∧ ∃ a, a < 10 ^ k ∧ a1 = nI a) → Dbad tx l s k a1 a2 ∨ Dgood tx l s k a1 a2 := by
  have stop : ∀ (k : Nat) (a1 a2 : Int32), s + k ≤ l → ¬ isD tx l (s + k) → (k ≤ 2 → a1 = a2 ∧ ∃ a, a < 10 ^ k ∧ a1 = nI a) → Dbad tx l s k a1 a2 ∨ Dgood tx l s k a1 a2 := by
    intro k a1 a2 hk hD ha
    have eMA : nI (s + k) - nI s = nI k := by
      rw [pk_sub (show s ≤ s + k by omega)]
      congr 1
      omega
    by_cases h1 : k < 1
    · refine Or.inl ⟨nI (s + k), ?_, ?_⟩
      · intro m hm
        obtain ⟨m, rfl⟩ : ∃ q, m = q + 1 := ⟨m - 1, by omega⟩
        refine lp_inr ?_
        rw [L4_no hl hk hD]
        unfold exC
        rw [if_pos (show nI k < (1 : Int32) from q_lt (b := 1) h1 (by decide))]
      · intro M y1 y2 y3 m hm
        obtain ⟨m, rfl⟩ : ∃ q, m = q + 1 := ⟨m - 1, by omega⟩
        refine lp_inr ?_
        rw [L86_no hl hx (show s ≤ s + k by omega) hk hD]
        unfold exM
        rw [if_pos (show nI (s + k) = nI s by congr 1; omega)]
    · by_cases h2 : 2 < k
      · refine Or.inl ⟨nI (s + k), ?_, ?_⟩
        · intro m hm
          obtain ⟨m, rfl⟩ : ∃ q, m = q + 1 := ⟨m - 1, by omega⟩
          refine lp_inr ?_
          rw [L4_no hl hk hD]
          unfold exC
          rw [if_neg (show ¬ nI k < (1 : Int32) from q_nlt (a := k) (b := 1) (by omega) (by omega)), if_pos (show (2 : Int32) < nI k from q_lt (a := 2) h2 (by omega))]
        · intro M y1 y2 y3 m hm
          obtain ⟨m, rfl⟩ : ∃ q, m = q + 1 := ⟨m - 1, by omega⟩
          refine lp_inr ?_
          rw [L86_no hl hx (show s ≤ s + k by omega) hk hD]
          unfold exM
          rw [if_neg (q_ne (show s + k ≠ s by omega) (show s + k < 2 ^ 31 by omega) (show s < 2 ^ 31 by omega)), eMA, if_pos (show (2 : Int32) < nI k from q_lt (a := 2) h2 (by omega))]
      · obtain ⟨rfl, a, ha1, rfl⟩ := ha (by omega)
        have ha100 : a < 100 := Nat.lt_of_lt_of_le ha1 (show 10 ^ k ≤ 10 ^ 2 from Nat.pow_le_pow_right (by decide) (by omega))
        have c1 : ¬ nI k < (1 : Int32) := q_nlt (b := 1) (a := k) (by omega) (by omega)
        have c2 : ¬ (2 : Int32) < nI k := q_nlt (a := 2) (by omega) (by decide)
        have c3 : ¬ nI (s + k) = nI s := q_ne (show s + k ≠ s by omega) (show s + k < 2 ^ 31 by omega) (show s < 2 ^ 31 by omega)
        by_cases h36 : a < 36
        · refine Or.inr ⟨a, s + k, h36, by omega, hk, ?_, ?_⟩
          · intro m hm
            obtain ⟨m, rfl⟩ : ∃ q, m = q + 1 := ⟨m - 1, by omega⟩
            refine lp_inr ?_
            rw [L4_no hl hk hD]
            unfold exC
            rw [if_neg c1, if_neg c2, cIsAngle_e, decide_eq_true (show 0 ≤ (nI a).toInt ∧ (nI a).toInt < 36 by rw [nI_toInt (by omega)]; omega)]
            rfl
          · intro M y1 y2 y3 m hm
            obtain ⟨m, rfl⟩ : ∃ q, m = q + 1 := ⟨m - 1, by omega⟩
            have hb : fX4_readsCommand_L86 M tx (nI l) (nI s) y1 y2 y3 (byt tx l s) (nI (s + k), nI a) = if y1 = true then (Option.bind (fX4_aims M y2 (nI a) (wayM y3)) fun v25 => some (.inr (true, v25.2, nI (s + k)))) else (some (.inr (true, M, nI (s + k)))) := by
              rw [L86_no hl hx (show s ≤ s + k by omega) hk hD]
              unfold exM
              rw [if_neg c3, eMA, if_neg c2, if_pos (show nI a ≤ (35 : Int32) from q_le (b := 35) (by omega) (by decide))]
            rw [lp, hb]
            cases y1
            · rfl
            · rw [if_pos rfl, if_pos rfl]
              cases fX4_aims M y2 (nI a) (wayM y3) <;> rfl
        · refine Or.inl ⟨nI (s + k), ?_, ?_⟩
          · intro m hm
            obtain ⟨m, rfl⟩ : ∃ q, m = q + 1 := ⟨m - 1, by omega⟩
            refine lp_inr ?_
            rw [L4_no hl hk hD]
            unfold exC
            rw [if_neg c1, if_neg c2, cIsAngle_e, decide_eq_false (show ¬ (0 ≤ (nI a).toInt ∧ (nI a).toInt < 36) by rw [nI_toInt (by omega)]; omega)]
            rfl
          · intro M y1 y2 y3 m hm
            obtain ⟨m, rfl⟩ : ∃ q, m = q + 1 := ⟨m - 1, by omega⟩
            refine lp_inr ?_
            rw [L86_no hl hx (show s ≤ s + k by omega) hk hD]
            unfold exM
            rw [if_neg c3, eMA, if_neg c2, if_neg (show ¬ nI a ≤ (35 : Int32) from q_nle (b := 35) (by omega) (by omega))]
  intro r
  induction r with
  | zero =>
    intro k a1 a2 hr ha
    exact stop k a1 a2 (by omega) (fun h => absurd h.1 (by omega)) ha
  | succ r ih =>
    intro k a1 a2 hr ha
    by_cases hD : isD tx l (s + k)
    · have eMA : nI (s + k) - nI s = nI k := by
        rw [pk_sub (show s ≤ s + k by omega)]
        congr 1
        omega
      have hb1 := L4_yes hl hD a1 (nI k)
      have hb2 : ∀ (M : Nat → Int32) (y1 : Bool) (y2 y3 : Int32), _ := fun M y1 y2 y3 => L86_yes hl hx (show s ≤ s + k by omega) hD M (nI s) y1 y2 y3 a2
      rw [nI_1] at hb1
      simp only [eMA] at hb2
      have key := ih (k + 1) (if (2 : Int32) ≤ nI k then a1 else (((10 : Int32) * a1) + tx (s + k)) - (48 : Int32)) (if (3 : Int32) ≤ nI k then a2 else (((10 : Int32) * a2) + tx (s + k)) - (48 : Int32)) (by omega) (by
        intro hk2
        obtain ⟨rfl, a, ha1, rfl⟩ := ha (by omega)
        rw [if_neg (show ¬ (2 : Int32) ≤ nI k from q_nle (a := 2) (by omega) (by decide)), if_neg (show ¬ (3 : Int32) ≤ nI k from q_nle (a := 3) (by omega) (by decide))]
        refine ⟨rfl, ?_⟩
        have ha10 : a < 10 := Nat.lt_of_lt_of_le ha1 (show 10 ^ k ≤ 10 ^ 1 from Nat.pow_le_pow_right (by decide) (by omega))
        obtain ⟨b, hb, hb'⟩ := dig_val ha10 hD.2.1 hD.2.2
        refine ⟨b, ?_, hb'⟩
        rw [Nat.pow_succ]
        omega)
      rcases key with ⟨e, p1, p2⟩ | ⟨t, e, p0, p01, p02, p1, p2⟩
      · refine Or.inl ⟨e, ?_, ?_⟩
        · intro m hm
          obtain ⟨m, rfl⟩ : ∃ q, m = q + 1 := ⟨m - 1, by omega⟩
          rw [lp_inl hb1]
          exact p1 m (by omega)
        · intro M y1 y2 y3 m hm
          obtain ⟨m, rfl⟩ : ∃ q, m = q + 1 := ⟨m - 1, by omega⟩
          rw [lp_inl (hb2 M y1 y2 y3)]
          exact p2 M y1 y2 y3 m (by omega)
      · refine Or.inr ⟨t, e, p0, p01, p02, ?_, ?_⟩
        · intro m hm
          obtain ⟨m, rfl⟩ : ∃ q, m = q + 1 := ⟨m - 1, by omega⟩
          rw [lp_inl hb1]
          exact p1 m (by omega)
        · intro M y1 y2 y3 m hm
          obtain ⟨m, rfl⟩ : ∃ q, m = q + 1 := ⟨m - 1, by omega⟩
          rw [lp_inl (hb2 M y1 y2 y3)]
          exact p2 M y1 y2 y3 m (by omega)
    · exact stop k a1 a2 (by omega) hD ha
/-! one command -/
def Cp (M' M : Nat → Int32) (n : Nat) : Prop := M' 2 = nI n ∧ ∀ c, c < n → F M' c 5 = F M c 5 ∧ F M' c 7 = F M c 7
theorem Cp_aim {M' M : Nat → Int32} {n c : Nat} {t w : Int32} (h : Cp M' M n) : Cp (aimM M' c t w) M n := by
  refine ⟨by rw [aimM_lo (by decide)]; exact h.1, fun c' hc' => ?_⟩
  by_cases e : c' = c
  · subst e
    rw [aimM_k (by decide) (by decide), aimM_k (by decide) (by decide)]
    exact h.2 c' hc'
  · rw [aimM_F e (by decide), aimM_F e (by decide)]
    exact h.2 c' hc'
def Cbad (fu : Nat) (R M tx : Nat → Int32) (n l p : Nat) : Prop := ∃ (f : Nat) (e : Int32), p ≤ f ∧ f ≤ l ∧ skp tx l f = f ∧ (∀ (TC TW TG : Nat → Int32) (k : Int32), fX2_readCommand fu tx (nI l) (nI p) TC TW TG R k = some (nI f, e, TC, TW, TG)) ∧ ∀ (M' : Nat → Int32) (y1 : Bool), Cp M' M n → fX4_readsCommand fu M' tx (nI l) (nI p) y1 = some (false, M', nI f)
def Cgood (fu : Nat) (R M tx : Nat → Int32) (n l p : Nat) : Prop := ∃ (c t : Nat) (w : Int32) (e : Nat), c < n ∧ t < 36 ∧ (w = 0 ∨ w = 1 ∨ w = -1) ∧ p + 3 ≤ e ∧ e ≤ l ∧ (∀ (TC TW TG : Nat → Int32) (k : Nat), k < 20 → fX2_readCommand fu tx (nI l) (nI p) TC TW TG R (nI k) = some (-100, nI e, upd TC k (nI c), upd TW k w, upd TG k (nI t))) ∧ ∀ (M' : Nat → Int32) (y1 : Bool), Cp M' M n → fX4_readsCommand fu M' tx (nI l) (nI p) y1 = some (true, (if y1 = true then aimM M' c (nI t) w else M'), nI e)
def cway (b : Int32) : Int32 := if b = (60 : Int32) then -1 else if b = (62 : Int32) then 1 else if b = (126 : Int32) then 0 else 2
theorem cWay_e (hl : l ≤ 80) {p : Nat} (hp : p ≤ l) : fX2_wayHere tx (nI l) (nI p) = some (cway (byt tx l p)) := by
  unfold fX2_wayHere cway
  rw [cByte_e hl hp, Option.bind_some]
  split
  · rfl
  · split
    · rfl
    · split <;> rfl
theorem bcase (b : Int32) : (cway b = 2 ∧ ∀ {α : Type} (A B C E : α), (if b = (62 : Int32) then A else if b = (60 : Int32) then B else if b = (126 : Int32) then C else E) = E) ∨ (cway b = wayM b ∧ ¬ cway b = 2 ∧ (cway b = 0 ∨ cway b = 1 ∨ cway b = -1) ∧ ¬ b = -1 ∧ ∀ {α : Type} (A E : α), (if b = (62 : Int32) then A else if b = (60 : Int32) then A else if b = (126 : Int32) then A else E) = A) := by
  by_cases h1 : b = 62
  · subst h1
    exact Or.inr ⟨by decide, by decide, by decide, by decide, fun A E => rfl⟩
  · by_cases h2 : b = 60
    · subst h2
      exact Or.inr ⟨by decide, by decide, by decide, by decide, fun A E => rfl⟩
    · by_cases h3 : b = 126
      · subst h3
        exact Or.inr ⟨by decide, by decide, by decide, by decide, fun A E => rfl⟩
      · refine Or.inl ⟨?_, ?_⟩
        · unfold cway
          rw [if_neg h2, if_neg h1, if_neg h3]
        · intro α A B C E
          rw [if_neg h1, if_neg h2, if_neg h3]
theorem cmd_e {R M : Nat → Int32} {n : Nat} (hl : l ≤ 80) (hx : ∀ j, j < l → 0 ≤ (tx j).toInt) (hfu : 200 < fu) (hR : Rel R M n) {p : Nat} (hp : p ≤ l) : Cbad fu R M tx n l p ∨ Cgood fu R M tx n l p := by
  have hn4 := hR.1
  have g1 := skp_ge (tx := tx) hp
  have i1 := skp_idem (tx := tx) hp
  have c1 := cSkip_e (tx := tx) (fu := fu) hl (by omega) hp
  have m1 := mHere_e (tx := tx) (fu := fu) hl (by omega) hp
  generalize skp tx l p = s1 at *
  have b1 := cByte_e (tx := tx) hl g1.2
  by_cases hc : 0 ≤ (byt tx l s1 - (48 : Int32)).toInt ∧ (byt tx l s1 - (48 : Int32)).toInt < n
  · have hs1 : s1 < l := by
      refine Decidable.byContradiction fun q => ?_
      unfold byt at hc
      rw [if_neg q] at hc
      exact absurd hc.1 (by decide)
    obtain ⟨c, hcn, ec⟩ := of_toInt hc (by omega)
    have hc4 : c < 4 := by omega
    have a1 := cCanAim_e (X := R) hR hcn
    have a2 : ∀ M' : Nat → Int32, Cp M' M n → fX4_mayNotAim M' (nI c) = some (ons M c || lft M c) := by
      intro M' hM
      rw [mMayNot_e hc4]
      unfold ons lft
      rw [(hM.2 c hcn).1, (hM.2 c hcn).2]
    by_cases hm : (ons M c || lft M c) = true
    · refine Or.inl ⟨s1, nI s1, g1.1, g1.2, i1, ?_, ?_⟩
      · intro TC TW TG k
        unfold fX2_readCommand
        rw [c1, Option.bind_some, b1, Option.bind_some, cHasCrane_e hR, Option.bind_some, decide_eq_true hc, if_pos rfl, ec, a1, hm, Option.bind_some, if_neg (by decide)]
      · intro M' y1 hM
        unfold fX4_readsCommand
        rw [m1, Option.bind_some]
        show (Option.bind (fX4_isCrane M' (byt tx l s1 - (48 : Int32))) _) = _
        rw [mIsCrane_e hn4 hM.1, Option.bind_some, decide_eq_true hc, if_pos rfl]
        show (Option.bind (fX4_mayNotAim M' (byt tx l s1 - (48 : Int32))) _) = _
        rw [ec, a2 M' hM, hm, Option.bind_some, if_pos rfl]
    · have hmf : (ons M c || lft M c) = false := by simpa using hm
      have e11 : nI s1 + (1 : Int32) = nI (s1 + 1) := nI_1 s1
      have g2 := skp_ge (tx := tx) (show s1 + 1 ≤ l by omega)
      have i2 := skp_idem (tx := tx) (show s1 + 1 ≤ l by omega)
      have c2 := cSkip_e (tx := tx) (fu := fu) hl (by omega) (show s1 + 1 ≤ l by omega)
      have m2 := mHere_e (tx := tx) (fu := fu) hl (by omega) (show s1 + 1 ≤ l by omega)
      generalize skp tx l (s1 + 1) = s2 at *
      have w2 := cWay_e (tx := tx) hl g2.2
      rcases bcase (byt tx l s2) with ⟨q1, q2⟩ | ⟨q1, q2, q3, q4, q5⟩
      · refine Or.inl ⟨s2, nI s2, by omega, g2.2, i2, ?_, ?_⟩
        · intro TC TW TG k
          unfold fX2_readCommand
          rw [c1, Option.bind_some, b1, Option.bind_some, cHasCrane_e hR, Option.bind_some, decide_eq_true hc, if_pos rfl, ec, a1, hmf, Option.bind_some, if_pos (by decide), e11, c2, Option.bind_some, w2, Option.bind_some, if_pos q1]
        · intro M' y1 hM
          unfold fX4_readsCommand
          rw [m1, Option.bind_some]
          show (Option.bind (fX4_isCrane M' (byt tx l s1 - (48 : Int32))) _) = _
          rw [mIsCrane_e hn4 hM.1, Option.bind_some, decide_eq_true hc, if_pos rfl]
          show (Option.bind (fX4_mayNotAim M' (byt tx l s1 - (48 : Int32))) _) = _
          rw [ec, a2 M' hM, hmf, Option.bind_some, if_neg (by decide)]
          show (Option.bind (fX4_here fu tx (nI l) (nI s1 + (1 : Int32))) _) = _
          rw [e11, m2, Option.bind_some]
          exact q2 _ _ _ _
      · have hs2 : s2 < l := by
          refine Decidable.byContradiction fun q => ?_
          unfold byt at q4
          rw [if_neg q] at q4
          exact q4 rfl
        have e21 : nI s2 + (1 : Int32) = nI (s2 + 1) := nI_1 s2
        have g3 := skp_ge (tx := tx) (show s2 + 1 ≤ l by omega)
        have i3 := skp_idem (tx := tx) (show s2 + 1 ≤ l by omega)
        have c3 := cSkip_e (tx := tx) (fu := fu) hl (by omega) (show s2 + 1 ≤ l by omega)
        have m3 := mHere_e (tx := tx) (fu := fu) hl (by omega) (show s2 + 1 ≤ l by omega)
        generalize skp tx l (s2 + 1) = s3 at *
        have hC : ∀ (TC TW TG : Nat → Int32) (k : Int32), fX2_readCommand fu tx (nI l) (nI p) TC TW TG R k = Option.bind (fX2_readAngle fu tx (nI l) (nI s3)) fun v18 => if v18.1 = (-1 : Int32) then (some (nI s3, v18.2, TC, TW, TG)) else (Option.bind (wrA TC 20 k (nI c)) fun v21 => Option.bind (wrA TW 20 k (cway (byt tx l s2))) fun v23 => Option.bind (wrA TG 20 k v18.1) fun v25 => some ((-100 : Int32), v18.2, v21, v23, v25)) := by
          intro TC TW TG k
          unfold fX2_readCommand
          rw [c1, Option.bind_some, b1, Option.bind_some, cHasCrane_e hR, Option.bind_some, decide_eq_true hc, if_pos rfl, ec, a1, hmf, Option.bind_some, if_pos (by decide), e11, c2, Option.bind_some, w2, Option.bind_some, if_neg q2, e21, c3, Option.bind_some]
        have hM1 : ∀ (M' : Nat → Int32) (y1 : Bool), Cp M' M n → fX4_readsCommand fu M' tx (nI l) (nI p) y1 = lp (fX4_readsCommand_L86 M' tx (nI l) (nI s3) y1 (nI c) (byt tx l s2) (byt tx l s3)) fu (nI s3, (0 : Int32)) := by
          intro M' y1 hM
          unfold fX4_readsCommand
          rw [m1, Option.bind_some]
          show (Option.bind (fX4_isCrane M' (byt tx l s1 - (48 : Int32))) _) = _
          rw [mIsCrane_e hn4 hM.1, Option.bind_some, decide_eq_true hc, if_pos rfl]
          show (Option.bind (fX4_mayNotAim M' (byt tx l s1 - (48 : Int32))) _) = _
          rw [ec, a2 M' hM, hmf, Option.bind_some, if_neg (by decide)]
          show (Option.bind (fX4_here fu tx (nI l) (nI s1 + (1 : Int32))) _) = _
          rw [e11, m2, Option.bind_some]
          refine (q5 _ _).trans ?_
          show (Option.bind (fX4_here fu tx (nI l) (nI s2 + (1 : Int32))) _) = _
          rw [e21, m3, Option.bind_some]
        rcases digs hl hx s3 (l - s3) 0 0 0 (by omega) (fun _ => ⟨rfl, 0, by decide, rfl⟩) with ⟨e, p1, p2⟩ | ⟨t, e, p0, p01, p02, p1, p2⟩
        · have p1' : fX2_readAngle fu tx (nI l) (nI s3) = some (-1, e) := p1 fu (by omega)
          refine Or.inl ⟨s3, e, by omega, g3.2, i3, ?_, ?_⟩
          · intro TC TW TG k
            rw [hC, p1', Option.bind_some]
            exact if_pos rfl
          · intro M' y1 hM
            rw [hM1 M' y1 hM]
            exact p2 M' y1 (nI c) (byt tx l s2) fu (by omega)
        · have p1' : fX2_readAngle fu tx (nI l) (nI s3) = some (nI t, nI e) := p1 fu (by omega)
          have ht : ∀ t, t < 36 → ¬ nI t = (-1 : Int32) := by decide
          refine Or.inr ⟨c, t, cway (byt tx l s2), e, hcn, p0, q3, by omega, p02, ?_, ?_⟩
          · intro TC TW TG k hk
            rw [hC, p1', Option.bind_some]
            refine (if_neg (ht t p0)).trans ?_
            rw [wr_n hk (by decide), wr_n hk (by decide), Option.bind_some, Option.bind_some]
            show (Option.bind (wrA TG 20 (nI k) (nI t)) _) = _
            rw [wr_n hk (by decide), Option.bind_some]
          · intro M' y1 hM
            have p3 : lp (fX4_readsCommand_L86 M' tx (nI l) (nI s3) y1 (nI c) (byt tx l s2) (byt tx l s3)) fu (nI s3, (0 : Int32)) = _ := p2 M' y1 (nI c) (byt tx l s2) fu (by omega)
            rw [hM1 M' y1 hM, p3]
            by_cases hy : y1 = true
            · rw [if_pos hy, if_pos hy, q1, aims_e hc4]
              rfl
            · rw [if_neg hy, if_neg hy]
  · refine Or.inl ⟨s1, nI s1, g1.1, g1.2, i1, ?_, ?_⟩
    · intro TC TW TG k
      unfold fX2_readCommand
      rw [c1, Option.bind_some, b1, Option.bind_some, cHasCrane_e hR, Option.bind_some, decide_eq_false hc, if_neg (by decide)]
    · intro M' y1 hM
      unfold fX4_readsCommand
      rw [m1, Option.bind_some]
      show (Option.bind (fX4_isCrane M' (byt tx l s1 - (48 : Int32))) _) = _
      rw [mIsCrane_e hn4 hM.1, Option.bind_some, decide_eq_false hc, if_neg (by decide)]
end TEXTB
