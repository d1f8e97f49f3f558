/-! all the commands -/
def St (TC TW TG : Nat → Int32) : Nat → List (Nat × Int32 × Nat) → Prop
  | _, [] => True
  | k, q :: cs => TC k = nI q.1 ∧ TW k = q.2.1 ∧ TG k = nI q.2.2 ∧ St TC TW TG (k + 1) cs
def okC (n : Nat) (cs : List (Nat × Int32 × Nat)) : Prop := ∀ q, q ∈ cs → q.1 < n ∧ q.2.2 < 36 ∧ (q.2.1 = 0 ∨ q.2.1 = 1 ∨ q.2.1 = -1)
noncomputable def aimL (M : Nat → Int32) (cs : List (Nat × Int32 × Nat)) : Nat → Int32 := cs.foldl (fun M q => aimM M q.1 (nI q.2.2) q.2.1) M
noncomputable def mAll (fu : Nat) (tx : Nat → Int32) (l : Nat) (y1 : Bool) (M : Nat → Int32) (p m : Nat) : Option (Bool × (Nat → Int32) × Int32) := Option.bind (fX4_readsCommand fu M tx (nI l) (nI p) y1) fun v1 => Option.bind (fX4_here fu tx (nI l) v1.2.2) fun v3 => lp (fX4_readsAll_L16 fu tx (nI l) y1) m (v1.2.1, v3.2, v1.1, v3.1)
section TEXTC
variable {tx : Nat → Int32} {l fu : Nat}
def Abad (fu : Nat) (R M tx : Nat → Int32) (n l k p : Nat) : Prop := ∃ f, f ≤ l ∧ (∀ (TC TW TG : Nat → Int32) (m : Nat), l < p + m → ∃ x, lp (fX2_read_L12 fu tx (nI l) R) m (nI p, TC, TW, TG, nI k, nI k) = some (nI f, x)) ∧ ∀ (M' : Nat → Int32) (y1 : Bool) (m : Nat), Cp M' M n → l + 2 < p + m → ∃ M'', mAll fu tx l y1 M' p m = some (false, M'', nI f) ∧ (y1 = false → M'' = M')
def Agood (fu : Nat) (R M tx : Nat → Int32) (n l k p : Nat) : Prop := ∃ (cs : List (Nat × Int32 × Nat)) (e : Nat), okC n cs ∧ k + cs.length ≤ 20 ∧ (∀ (TC TW TG : Nat → Int32) (m : Nat), l < p + m → ∃ TC' TW' TG', lp (fX2_read_L12 fu tx (nI l) R) m (nI p, TC, TW, TG, nI k, nI k) = some (-100, nI e, TC', TW', TG', nI (k + cs.length)) ∧ (∀ j, j < k → TC' j = TC j ∧ TW' j = TW j ∧ TG' j = TG j) ∧ St TC' TW' TG' k cs) ∧ ∀ (M' : Nat → Int32) (y1 : Bool) (m : Nat), Cp M' M n → l + 2 < p + m → mAll fu tx l y1 M' p m = some (true, (if y1 = true then aimL M' cs else M'), nI e)
theorem bad_end {R M : Nat → Int32} {n f : Nat} (hl : l ≤ 80) (hfu : 200 < fu) (hf : f ≤ l) (hi : skp tx l f = f) {p : Nat} {M' : Nat → Int32} {y1 : Bool} {m : Nat} (hm : 1 < m) (h : fX4_readsCommand fu M' tx (nI l) (nI p) y1 = some (false, M', nI f)) : mAll fu tx l y1 M' p m = some (false, M', nI f) := by
  obtain ⟨m, rfl⟩ : ∃ q, m = q + 1 := ⟨m - 1, by omega⟩
  unfold mAll
  rw [h, Option.bind_some]
  show (Option.bind (fX4_here fu tx (nI l) (nI f)) _) = _
  rw [mHere_e hl (by omega) hf, hi, Option.bind_some]
  refine lp_inr ?_
  unfold fX4_readsAll_L16
  exact if_neg (show ¬ false = true by decide)
theorem neg100 : ∀ f, f ≤ 80 → ¬ nI f = (-100 : Int32) := by decide
theorem all_e {R M : Nat → Int32} {n : Nat} (hl : l ≤ 80) (hx : ∀ j, j < l → 0 ≤ (tx j).toInt) (hfu : 200 < fu) (hR : Rel R M n) : ∀ (r k p : Nat), l - p ≤ r → p ≤ l → 4 * k ≤ p → Abad fu R M tx n l k p ∨ Agood fu R M tx n l k p := by
  intro r
  induction r with
  | zero =>
    intro k p hr hp hk
    have hpl : p = l := by omega
    rcases cmd_e (R := R) (M := M) hl hx hfu hR hp with ⟨f, e, h1, h2, h3, h4, h5⟩ | ⟨c, t, w, e, h1, h2, h3, h4, h5, -⟩
    · refine Or.inl ⟨f, h2, ?_, ?_⟩
      · intro TC TW TG m hm
        obtain ⟨m, rfl⟩ : ∃ q, m = q + 1 := ⟨m - 1, by omega⟩
        by_cases hk20 : 20 ≤ k
        · have : f = p := by omega
          subst this
          refine ⟨(nI f, TC, TW, TG, nI k), lp_inr ?_⟩
          unfold fX2_read_L12
          exact if_pos (show (20 : Int32) ≤ nI k from q_le (a := 20) hk20 (by omega))
        · refine ⟨(e, TC, TW, TG, nI k), lp_inr ?_⟩
          unfold fX2_read_L12
          refine (if_neg (show ¬ (20 : Int32) ≤ nI k from q_nle (a := 20) (by omega) (by decide))).trans ?_
          show (Option.bind (fX2_readCommand fu tx (nI l) (nI p) TC TW TG R (nI k)) _) = _
          rw [h4, Option.bind_some]
          exact if_neg (neg100 f (by omega))
      · intro M' y1 m hM hm
        exact ⟨M', bad_end (R := R) (M := M) (n := n) hl hfu h2 h3 (by omega) (h5 M' y1 hM), fun _ => rfl⟩
    · exact absurd h4 (by omega)
  | succ r ih =>
    intro k p hr hp hk
    rcases cmd_e (R := R) (M := M) hl hx hfu hR hp with ⟨f, e, h1, h2, h3, h4, h5⟩ | ⟨c, t, w, e, h1, h2, h3, h4, h5, h6, h7⟩
    · refine Or.inl ⟨f, h2, ?_, ?_⟩
      · intro TC TW TG m hm
        obtain ⟨m, rfl⟩ : ∃ q, m = q + 1 := ⟨m - 1, by omega⟩
        by_cases hk20 : 20 ≤ k
        · have : f = p := by omega
          subst this
          refine ⟨(nI f, TC, TW, TG, nI k), lp_inr ?_⟩
          unfold fX2_read_L12
          exact if_pos (show (20 : Int32) ≤ nI k from q_le (a := 20) hk20 (by omega))
        · refine ⟨(e, TC, TW, TG, nI k), lp_inr ?_⟩
          unfold fX2_read_L12
          refine (if_neg (show ¬ (20 : Int32) ≤ nI k from q_nle (a := 20) (by omega) (by decide))).trans ?_
          show (Option.bind (fX2_readCommand fu tx (nI l) (nI p) TC TW TG R (nI k)) _) = _
          rw [h4, Option.bind_some]
          exact if_neg (neg100 f (by omega))
      · intro M' y1 m hM hm
        exact ⟨M', bad_end (R := R) (M := M) (n := n) hl hfu h2 h3 (by omega) (h5 M' y1 hM), fun _ => rfl⟩
    · have hk20 : k < 20 := by omega
      have hkn : ¬ (20 : Int32) ≤ nI k := q_nle (a := 20) hk20 (by decide)
      have g2 := skp_ge (tx := tx) h5
      have i2 := skp_idem (tx := tx) h5
      have c2 := cSkip_e (tx := tx) (fu := fu) hl (by omega) h5
      have m2 := mHere_e (tx := tx) (fu := fu) hl (by omega) h5
      generalize skp tx l e = s at *
      have b2 := cByte_e (tx := tx) hl g2.2
      have hC : ∀ (TC TW TG : Nat → Int32), fX2_read_L12 fu tx (nI l) R (nI p, TC, TW, TG, nI k, nI k) = (if byt tx l s = (-1 : Int32) then (some (.inr ((-100 : Int32), nI s, upd TC k (nI c), upd TW k w, upd TG k (nI t), nI (k + 1)))) else (if byt tx l s = (59 : Int32) then (some (.inl (nI (s + 1), upd TC k (nI c), upd TW k w, upd TG k (nI t), nI (k + 1), nI (k + 1)))) else (some (.inr (nI s, nI s, upd TC k (nI c), upd TW k w, upd TG k (nI t), nI (k + 1)))))) := by
        intro TC TW TG
        unfold fX2_read_L12
        refine (if_neg hkn).trans ?_
        show (Option.bind (fX2_readCommand fu tx (nI l) (nI p) TC TW TG R (nI k)) _) = _
        rw [h6 TC TW TG k hk20, Option.bind_some]
        refine (if_pos rfl).trans ?_
        show (Option.bind (fX2_skipBlanks fu tx (nI l) (nI e)) _) = _
        rw [c2, Option.bind_some, b2, Option.bind_some, Option.bind_some, nI_1, nI_1]
      have hM0 : ∀ (M' : Nat → Int32) (y1 : Bool) (m : Nat), Cp M' M n → mAll fu tx l y1 M' p m = lp (fX4_readsAll_L16 fu tx (nI l) y1) m ((if y1 = true then aimM M' c (nI t) w else M'), nI s, true, byt tx l s) := by
        intro M' y1 m hM
        unfold mAll
        rw [h7 M' y1 hM, Option.bind_some]
        show (Option.bind (fX4_here fu tx (nI l) (nI e)) _) = _
        rw [m2, Option.bind_some]
      by_cases e1 : byt tx l s = (-1 : Int32)
      · refine Or.inr ⟨[(c, w, t)], s, ?_, by show k + 1 ≤ 20; omega, ?_, ?_⟩
        · intro q hq
          rw [List.mem_singleton] at hq
          subst hq
          exact ⟨h1, h2, h3⟩
        · intro TC TW TG m hm
          obtain ⟨m, rfl⟩ : ∃ q, m = q + 1 := ⟨m - 1, by omega⟩
          have hb := hC TC TW TG
          rw [if_pos e1] at hb
          exact ⟨upd TC k (nI c), upd TW k w, upd TG k (nI t), lp_inr hb, fun j hj => ⟨upd_ne (by omega), upd_ne (by omega), upd_ne (by omega)⟩, upd_eq, upd_eq, upd_eq, trivial⟩
        · intro M' y1 m hM hm
          obtain ⟨m, rfl⟩ : ∃ q, m = q + 1 := ⟨m - 1, by omega⟩
          rw [hM0 M' y1 _ hM]
          refine lp_inr ?_
          unfold fX4_readsAll_L16
          refine (if_pos rfl).trans ?_
          exact if_pos e1
      · by_cases e2 : byt tx l s = (59 : Int32)
        · have hs : s < l := by
            refine Decidable.byContradiction fun q => ?_
            unfold byt at e1
            rw [if_neg q] at e1
            exact e1 rfl
          have hnext : ∀ (M' : Nat → Int32) (y1 : Bool) (m : Nat), Cp M' M n → mAll fu tx l y1 M' p (m + 1) = mAll fu tx l y1 (if y1 = true then aimM M' c (nI t) w else M') (s + 1) m := by
            intro M' y1 m hM
            rw [hM0 M' y1 _ hM]
            rw [lp]
            unfold fX4_readsAll_L16 mAll
            simp only [if_neg e1, if_pos e2, if_true, nI_1]
            cases fX4_readsCommand fu (if y1 = true then aimM M' c (nI t) w else M') tx (nI l) (nI (s + 1)) y1 with
            | none => rfl
            | some v =>
              simp only [Option.bind_some]
              cases fX4_here fu tx (nI l) v.2.2 with
              | none => rfl
              | some v3 => rfl
          have hcp : ∀ (M' : Nat → Int32) (y1 : Bool), Cp M' M n → Cp (if y1 = true then aimM M' c (nI t) w else M') M n := by
            intro M' y1 hM
            split
            · exact Cp_aim hM
            · exact hM
          rcases ih (k + 1) (s + 1) (by omega) (by omega) (by omega) with ⟨f, q1, q2, q3⟩ | ⟨cs, e', q1, q2, q3, q4⟩
          · refine Or.inl ⟨f, q1, ?_, ?_⟩
            · intro TC TW TG m hm
              obtain ⟨m, rfl⟩ : ∃ q, m = q + 1 := ⟨m - 1, by omega⟩
              have hb := hC TC TW TG
              rw [if_neg e1, if_pos e2] at hb
              rw [lp_inl hb]
              exact q2 _ _ _ m (by omega)
            · intro M' y1 m hM hm
              obtain ⟨m, rfl⟩ : ∃ q, m = q + 1 := ⟨m - 1, by omega⟩
              rw [hnext M' y1 m hM]
              obtain ⟨M'', z1, z2⟩ := q3 _ y1 m (hcp M' y1 hM) (by omega)
              refine ⟨M'', z1, fun hy => ?_⟩
              rw [z2 hy, hy, if_neg (by decide)]
          · refine Or.inr ⟨(c, w, t) :: cs, e', ?_, by rw [List.length_cons]; omega, ?_, ?_⟩
            · intro q hq
              rcases List.mem_cons.mp hq with rfl | hq
              · exact ⟨h1, h2, h3⟩
              · exact q1 q hq
            · intro TC TW TG m hm
              obtain ⟨m, rfl⟩ : ∃ q, m = q + 1 := ⟨m - 1, by omega⟩
              have hb := hC TC TW TG
              rw [if_neg e1, if_pos e2] at hb
              obtain ⟨TC', TW', TG', z1, z2, z3⟩ := q3 (upd TC k (nI c)) (upd TW k w) (upd TG k (nI t)) m (by omega)
              refine ⟨TC', TW', TG', ?_, ?_, ?_⟩
              · rw [lp_inl hb, z1, List.length_cons, show k + (cs.length + 1) = k + 1 + cs.length by omega]
              · intro j hj
                obtain ⟨y1, y2, y3⟩ := z2 j (by omega)
                exact ⟨y1.trans (upd_ne (by omega)), y2.trans (upd_ne (by omega)), y3.trans (upd_ne (by omega))⟩
              · obtain ⟨y1, y2, y3⟩ := z2 k (by omega)
                exact ⟨y1.trans upd_eq, y2.trans upd_eq, y3.trans upd_eq, z3⟩
            · intro M' y1 m hM hm
              obtain ⟨m, rfl⟩ : ∃ q, m = q + 1 := ⟨m - 1, by omega⟩
              rw [hnext M' y1 m hM, q4 _ y1 m (hcp M' y1 hM) (by omega)]
              by_cases hy : y1 = true
              · rw [if_pos hy, if_pos hy, if_pos hy]
                rfl
              · rw [if_neg hy, if_neg hy, if_neg hy]
        · refine Or.inl ⟨s, g2.2, ?_, ?_⟩
          · intro TC TW TG m hm
            obtain ⟨m, rfl⟩ : ∃ q, m = q + 1 := ⟨m - 1, by omega⟩
            have hb := hC TC TW TG
            rw [if_neg e1, if_neg e2] at hb
            exact ⟨_, lp_inr hb⟩
          · intro M' y1 m hM hm
            obtain ⟨m, rfl⟩ : ∃ q, m = q + 2 := ⟨m - 2, by omega⟩
            refine ⟨if y1 = true then aimM M' c (nI t) w else M', ?_, ?_⟩
            · rw [hM0 M' y1 _ hM]
              have hb : fX4_readsAll_L16 fu tx (nI l) y1 ((if y1 = true then aimM M' c (nI t) w else M'), nI s, true, byt tx l s) = some (.inl ((if y1 = true then aimM M' c (nI t) w else M'), nI s, false, byt tx l s)) := by
                unfold fX4_readsAll_L16
                refine (if_pos rfl).trans ?_
                refine (if_neg e1).trans ?_
                exact if_neg e2
              rw [lp_inl hb]
              refine lp_inr ?_
              unfold fX4_readsAll_L16
              exact if_neg (show ¬ false = true by decide)
            · intro hy
              rw [hy, if_neg (by decide)]
end TEXTC
