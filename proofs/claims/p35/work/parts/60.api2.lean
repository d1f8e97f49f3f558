/-! aim, turnRound, tick, addCrane, removeArc -/
theorem a_neg1 : ∀ a, a < 36 → ∀ t, t < 36 → jrem (((-1 : Int32) * (nI t - nI a)) + (36 : Int32)) (36 : Int32) = jrem ((nI a - nI t) + (36 : Int32)) (36 : Int32) := by decide +kernel
theorem a_eq0 : ∀ a, a < 36 → ∀ w, w < 3 → jrem (((nI w - 1) * (nI a - nI a)) + (36 : Int32)) (36 : Int32) = 0 := by decide +kernel
theorem a_ne1 : ∀ a, a < 36 → ∀ t, t < 36 → ¬ a = t → ¬ jrem (((1 : Int32) * (nI t - nI a)) + (36 : Int32)) (36 : Int32) = 0 := by decide +kernel
theorem a_ne2 : ∀ a, a < 36 → ∀ t, t < 36 → ¬ a = t → ¬ jrem (((-1 : Int32) * (nI t - nI a)) + (36 : Int32)) (36 : Int32) = 0 := by decide +kernel
section AIM
variable {X R HR M : Nat → Int32} {HS HN SV : Int32} {fu n c : Nat}
/-- the steps to the target, by a way that is one -/
theorem cStepsTo_e (hR : Rel X M n) (hc : c < n) (ha : ∃ a, a < 36 ∧ F M c 0 = nI a) (ht : ∃ t, t < 36 ∧ F M c 3 = nI t) (hw : F M c 4 = 1 ∨ F M c 4 = -1) : fX1_stepsToTarget X (nI c) = some (stTo M c (F M c 3) (F M c 4)) := by
  obtain ⟨a, ha, ea⟩ := ha
  obtain ⟨t, ht, et⟩ := ht
  unfold fX1_stepsToTarget stTo fX3_stepsClockwise
  simp only [rd4 (hR.lt hc), rd16 (hR.lt hc), rd20 (hR.lt hc), hR.f hc 0 (by decide), hR.f hc 3 (by decide), hR.f hc 4 (by decide), Option.bind_some]
  rcases hw with hw | hw
  · rw [hw, if_pos rfl, Int32.one_mul]
  · rw [hw, if_neg (by decide), ea, et, a_neg1 a ha t ht]
def its (M : Nat → Int32) (c : Nat) (t w : Int32) : Int32 := if w = (0 : Int32) then (if (18 : Int32) < stTo M c t 1 then -1 else 1) else w
def aim1 (M : Nat → Int32) (c : Nat) (t w : Int32) : Nat → Int32 := setF (setF M c 3 t) c 4 (its M c t w)
def aimM (M : Nat → Int32) (c : Nat) (t w : Int32) : Nat → Int32 := if stTo M c t (its M c t w) = (0 : Int32) then noT (aim1 M c t w) c else aim1 M c t w
theorem noT_over (t w : Int32) : noT (setF (setF M c 3 t) c 4 w) c = noT M c := by
  funext j
  unfold noT setF upd
  by_cases e4 : j = 4 + 21 * c + 4
  · simp [e4]
  · by_cases e3 : j = 4 + 21 * c + 3
    · simp [e3]
    · simp [e3, e4]
theorem its_cases {t w : Int32} (hw : w = 0 ∨ w = 1 ∨ w = -1) : its M c t w = 1 ∨ its M c t w = -1 := by
  unfold its
  rcases hw with rfl | rfl | rfl
  · rw [if_pos rfl]
    split
    · exact Or.inr rfl
    · exact Or.inl rfl
  · exact Or.inl (if_neg (by decide))
  · exact Or.inr (if_neg (by decide))
theorem aimM_F {c' k : Nat} {t w : Int32} (h : c' ≠ c) (hk : k < 21) : F (aimM M c t w) c' k = F M c' k := by
  unfold aimM aim1 noT
  split
  · rw [F_nc h (by decide) hk, F_nc h (by decide) hk, F_nc h (by decide) hk, F_nc h (by decide) hk]
  · rw [F_nc h (by decide) hk, F_nc h (by decide) hk]
theorem aimM_k {k : Nat} {t w : Int32} (h3 : k ≠ 3) (h4 : k ≠ 4) : F (aimM M c t w) c k = F M c k := by
  unfold aimM aim1 noT
  split
  · rw [F_nk h4, F_nk h3, F_nk h4, F_nk h3]
  · rw [F_nk h4, F_nk h3]
theorem aimM_lo {i : Nat} {t w : Int32} (h : i < 4) : aimM M c t w i = M i := by
  unfold aimM aim1 noT
  split
  · rw [setF_lo h, setF_lo h, setF_lo h, setF_lo h]
  · rw [setF_lo h, setF_lo h]
theorem aimM_hi {i : Nat} {t w : Int32} (hc : c < 4) (h : 88 ≤ i) : aimM M c t w i = M i := by
  unfold aimM aim1 noT
  split
  · rw [setF_hi hc (by decide) h, setF_hi hc (by decide) h, setF_hi hc (by decide) h, setF_hi hc (by decide) h]
  · rw [setF_hi hc (by decide) h, setF_hi hc (by decide) h]
theorem aimM_WF {t : Nat} {w : Int32} (hW : WF M n) (hc : c < n) (ht : t < 36) (hw : w = 0 ∨ w = 1 ∨ w = -1) : WF (aimM M c (nI t) w) n := by
  refine hW.at (c := c) (aimM_lo (by decide)) (aimM_lo (by decide)) (fun c' e k hk => aimM_F e hk) (fun _ => ?_)
  have hwc := hW.2.2 c hc
  have h1 : WFC (aim1 M c (nI t) w) c := by
    have e0 : F (aim1 M c (nI t) w) c 0 = F M c 0 := by unfold aim1; rw [F_nk (by decide), F_nk (by decide)]
    have e7 : F (aim1 M c (nI t) w) c 7 = F M c 7 := by unfold aim1; rw [F_nk (by decide), F_nk (by decide)]
    have e3 : F (aim1 M c (nI t) w) c 3 = nI t := by unfold aim1; rw [F_nk (by decide), F_same]
    have e4 : F (aim1 M c (nI t) w) c 4 = its M c (nI t) w := by unfold aim1; rw [F_same]
    refine ⟨by rw [e0]; exact hwc.1, Or.inr ⟨t, ht, e3⟩, ?_, ?_, by rw [e7]; exact hwc.2.2.2.2⟩
    · rw [e4]
      exact Or.inr (its_cases hw)
    · rw [e4]
      right
      rcases its_cases (M := M) (c := c) (t := nI t) hw with q | q <;> rw [q] <;> decide
  unfold aimM
  split
  · exact h1.none
  · exact h1
theorem cAim_e {t : Nat} {w : Int32} (hR : Rel X M n) (hW : WF M n) (hc : c < n) (ht : t < 36) (hw : w = 0 ∨ w = 1 ∨ w = -1) : ∃ X', fX1_aim X (nI c) (nI t) w = some (stTo M c (nI t) (its M c (nI t) w), X') ∧ Rel X' (aimM M c (nI t) w) n := by
  have hc4 := hR.lt hc
  obtain ⟨a, ha, ea⟩ := (hW.2.2 c hc).1
  by_cases e : a = t
  · subst e
    obtain ⟨X', d1, d2⟩ := cDrop_e hR hc
    have hz : stTo M c (nI a) (its M c (nI a) w) = 0 := by
      unfold stTo
      rw [ea]
      rcases its_cases (M := M) (c := c) (t := nI a) hw with q | q <;> rw [q]
      · exact a_eq0 a ha 2 (by decide)
      · exact a_eq0 a ha 0 (by decide)
    refine ⟨X', ?_, ?_⟩
    · unfold fX1_aim
      simp only [rd4 hc4, hR.f hc 0 (by decide), ea, if_true, d1, Option.bind_some]
      rw [hz]
    · unfold aimM
      rw [if_pos hz]
      unfold aim1
      rw [noT_over]
      exact d2
  · have hne : ¬ F M c 0 = nI t := by rw [ea]; exact q_ne e (by omega) (by omega)
    have hnz : ¬ stTo M c (nI t) (its M c (nI t) w) = 0 := by
      unfold stTo
      rw [ea]
      rcases its_cases (M := M) (c := c) (t := nI t) hw with q | q <;> rw [q]
      · exact a_ne1 a ha t ht e
      · exact a_ne2 a ha t ht e
    have hX1 := hR.set (k := 3) (nI t) hc (by decide)
    have hX2 : Rel (upd (upd X (ix c 3) (nI t)) (ix c 4) (its M c (nI t) w)) (aim1 M c (nI t) w) n := hX1.set (k := 4) (its M c (nI t) w) hc (by decide)
    have e0 : F (aim1 M c (nI t) w) c 0 = F M c 0 := by unfold aim1; rw [F_nk (by decide), F_nk (by decide)]
    have e3 : F (aim1 M c (nI t) w) c 3 = nI t := by unfold aim1; rw [F_nk (by decide), F_same]
    have e4 : F (aim1 M c (nI t) w) c 4 = its M c (nI t) w := by unfold aim1; rw [F_same]
    have hst : fX1_stepsToTarget (upd (upd X (ix c 3) (nI t)) (ix c 4) (its M c (nI t) w)) (nI c) = some (stTo M c (nI t) (its M c (nI t) w)) := by
      rw [cStepsTo_e hX2 hc ⟨a, ha, by rw [e0]; exact ea⟩ ⟨t, ht, e3⟩ (by rw [e4]; exact its_cases hw), e3, e4]
      unfold stTo
      rw [e0]
    refine ⟨_, ?_, by unfold aimM; rw [if_neg hnz]; exact hX2⟩
    unfold fX1_aim fX3_shorterWay fX3_stepsClockwise
    simp only [rd4 hc4, wr16 hc4, wr20 hc4, hR.f hc 0 (by decide), if_neg hne, Option.bind_some]
    by_cases h0 : w = 0
    · have hits : its M c (nI t) w = if (18 : Int32) < jrem ((nI t - F M c 0) + (36 : Int32)) (36 : Int32) then (-1 : Int32) else 1 := by
        unfold its stTo
        rw [if_pos h0, Int32.one_mul]
      simp only [if_pos h0]
      by_cases h1 : (18 : Int32) < jrem ((nI t - F M c 0) + (36 : Int32)) (36 : Int32)
      · rw [if_pos h1] at hits ⊢
        rw [← hits]
        simp only [Option.bind_some, hst]
      · rw [if_neg h1] at hits ⊢
        rw [← hits]
        simp only [Option.bind_some, hst]
    · have hits : its M c (nI t) w = w := if_neg h0
      simp only [if_neg h0]
      rw [hits] at hst ⊢
      simp only [hst, Option.bind_some]
theorem way_of {x : Int32} (h : (-1 : Int32).toInt ≤ x.toInt ∧ x.toInt ≤ (1 : Int32).toInt) : x = 0 ∨ x = 1 ∨ x = -1 := by
  have h : -1 ≤ x.toInt ∧ x.toInt ≤ 1 := h
  have h3 : x.toInt = 0 ∨ x.toInt = 1 ∨ x.toInt = -1 := by omega
  rcases h3 with h3 | h3 | h3
  · exact Or.inl (Int32.toInt_inj.mp (h3.trans (show (0 : Int) = (0 : Int32).toInt by decide)))
  · exact Or.inr (Or.inl (Int32.toInt_inj.mp (h3.trans (show (1 : Int) = (1 : Int32).toInt by decide))))
  · exact Or.inr (Or.inr (Int32.toInt_inj.mp (h3.trans (show (-1 : Int) = (-1 : Int32).toInt by decide))))
theorem cCanAim_e (hR : Rel X M n) (hc : c < n) : fX1_canAim X (nI c) = some (!(ons M c || lft M c)) := by
  unfold fX1_canAim
  simp only [cIsOnStep_e hR hc, cIsLeft_e hR hc, Option.bind_some]
  cases ons M c <;> cases lft M c <;> rfl
end AIM

