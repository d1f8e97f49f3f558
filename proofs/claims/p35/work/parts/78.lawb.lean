/-! p35: the law's overrides -/
section LWB
variable {R T HR M : Nat → Int32} {HS HN : Int32} {n c fu t q : Nat}
theorem GC_stp (ho : ons M c = false) (hT : hasT M c = true) (h : GC M c) : GC (stp M c) c := by
  have hw := GC_wfc h
  obtain ⟨a, b, p, g, h0, ha, h1, hb1, hb5, h2, hp, h5, hg, h⟩ := h
  obtain ⟨d, hd, hd2⟩ := nxt_rng hw
  rcases h with ⟨h3, -⟩ | ⟨t, ht, hta, h3, h4, h7⟩
  · rw [no_T h3] at hT
    cases hT
  · by_cases e2 : nxt M c = F M c 3
    · exact ⟨d, b, p, 0, by rw [stp_F, if_pos e2]; exact hd2, hd, by rw [stp_F, if_pos e2]; exact h1, hb1, hb5, by rw [stp_F, if_pos e2]; exact h2, hp, by rw [stp_F, if_pos e2]; rfl, by omega, Or.inl ⟨by rw [stp_F, if_pos e2]; rfl, by rw [stp_F, if_pos e2]; rfl, rfl, by rw [stp_F, if_pos e2]; exact Or.inl h7⟩⟩
    · refine ⟨d, b, p, 0, by rw [stp_F, if_neg e2]; exact hd2, hd, by rw [stp_F, if_neg e2]; exact h1, hb1, hb5, by rw [stp_F, if_neg e2]; exact h2, hp, by rw [stp_F, if_neg e2]; rfl, by omega, Or.inr ⟨t, ht, ?_, by rw [stp_F, if_neg e2]; exact h3, by rw [stp_F, if_neg e2]; exact h4, by rw [stp_F, if_neg e2]; exact h7⟩⟩
      intro z
      apply e2
      rw [hd2, h3, z]
theorem need_stp (ho : ons M c = false) (hT : hasT M c = true) (h : GC M c) : need (stp M c) c = need M c - F M c 1 := by
  obtain ⟨a, b, p, g, h0, ha, h1, hb1, hb5, h2, hp, h5, hg, h⟩ := h
  have hg0 := ons_0 h5 (by omega) ho
  subst hg0
  rcases h with ⟨h3, -⟩ | ⟨t, ht, hta, h3, h4, h7⟩
  · rw [no_T h3] at hT
    cases hT
  · obtain ⟨w, hw⟩ := wI_of h4
    obtain ⟨e1, e2, e3⟩ := need_T w ha ht hb5 hta hg h0 h1 h3 hw h5
    have hs := sN_step w ha ht hta
    have hn := nxt_e w ha h0 hw
    have ha' : aN w a < 36 := by cases w <;> exact Nat.mod_lt _ (by decide)
    rw [e1, h1]
    by_cases z : aN w a = t
    · have en : nxt M c = F M c 3 := by rw [hn, h3, z]
      have s1 := hs.1 z
      unfold need
      rw [no_T (by rw [stp_F, if_pos en]; rfl), if_neg (by decide), s1, pk_sub (by omega)]
      rw [show 1 * b - 0 - b = 0 by omega]
      rfl
    · have en : ¬ nxt M c = F M c 3 := by
        rw [hn, h3]
        exact q_ne z (by omega) (by omega)
      have s1 := hs.2 z
      obtain ⟨f1, f2, f3⟩ := need_T (M := stp M c) (c := c) w (a := aN w a) (t := t) (b := b) (g := 0) ha' ht hb5 (Ne.symm z) (by omega) (by rw [stp_F, if_neg en]; exact hn) (by rw [stp_F, if_neg en]; exact h1) (by rw [stp_F, if_neg en]; exact h3) (by rw [stp_F, if_neg en]; exact hw) (by rw [stp_F, if_neg en]; rfl)
      rw [f1, s1, Nat.succ_mul, pk_sub (by omega)]
      congr 1
      omega
theorem ovM_F {x s : Int32} {d k : Nat} (hd : d < 4) (hk : k < 21) : F (ovM M c q x s) d k = F (stp M c) d k := by
  unfold ovM
  rw [F_low (by decide), F_high hd hk (by omega), F_high hd hk (by omega), F_high hd hk (by omega), F_high hd hk (by omega)]
theorem ovM_lo {x s : Int32} {i : Nat} (h : i < 3) : ovM M c q x s i = M i := by
  unfold ovM
  rw [upd_ne (by omega), upd_ne (by omega), upd_ne (by omega), upd_ne (by omega), upd_ne (by omega), stp_lo (by omega)]
theorem ovM_3 {x s : Int32} : ovM M c q x s 3 = nI (q + 1) := upd_eq
theorem ovM_n0 {x s : Int32} : ovM M c q x s (88 + (q * 4 + 0)) = M 0 := by
  unfold ovM
  rw [upd_ne (by omega), upd_ne (by omega), upd_ne (by omega), upd_ne (by omega), upd_eq, stp_lo (by decide)]
theorem ovM_n1 {x s : Int32} : ovM M c q x s (88 + (q * 4 + 1)) = nI c := by
  unfold ovM
  rw [upd_ne (by omega), upd_ne (by omega), upd_ne (by omega), upd_eq]
theorem ovM_n2 {x s : Int32} : ovM M c q x s (88 + (q * 4 + 2)) = x := by
  unfold ovM
  rw [upd_ne (by omega), upd_ne (by omega), upd_eq]
theorem ovM_n3 {x s : Int32} : ovM M c q x s (88 + (q * 4 + 3)) = s := by
  unfold ovM
  rw [upd_ne (by omega), upd_eq]
theorem GD_ov {x s : Int32} (hn : n ≤ 4) (hG : GD M n) (hc : c < n) (ho : ons M c = false) (hT : hasT M c = true) (hq : q < 10) : GD (ovM M c q x s) n := by
  refine ⟨by rw [ovM_lo (by decide)]; exact hG.1, ⟨q + 1, by omega, ovM_3⟩, fun d hd => ?_⟩
  by_cases e : d = c
  · subst e
    exact GC_congr (GC_stp ho hT (hG.2.2 d hd)) (fun k hk _ _ _ => ovM_F (by omega) hk)
  · exact GC_congr (hG.2.2 d hd) (fun k hk _ _ _ => by rw [ovM_F (by omega) hk, stp_Fne e hk])
/-- what holds between the overrides -/
def OV (R M : Nat → Int32) (n t q : Nat) : Prop := Rel R M n ∧ GD M n ∧ M 3 = nI q ∧ M 0 = nI t
theorem law_481 (hR : Rel R M n) (hG : GD M n) (hfu : 12 < fu) : fL_law_J481 fu R HR HS HN (nI c) = some (.inl (R, HR, HS, HN, nI (c + 1))) := by
  unfold fL_law_J481
  refine obs (isSound_x hR hG hfu true (fun q => by cases q)) ?_
  rw [if_pos rfl, nI_1]
theorem law_272 (hO : OV R M n t q) (hH : HI HS HN) (hfu : 2000 < fu) (hc : c < n) (hq : q ≤ c) (R2 : Nat → Int32) (y2 : Int32) : ∃ (R' HR' M' : Nat → Int32) (HS' HN' : Int32) (q' : Nat), fL_law_L272 fu R2 y2 (nI n) (R, HR, HS, HN, nI c) = some (.inl (R', HR', HS', HN', nI (c + 1))) ∧ OV R' M' n t q' ∧ q' ≤ c + 1 ∧ HI HS' HN' := by
  obtain ⟨hR, hG, h3, h0⟩ := hO
  have hn := hR.1
  have hW := GD_wf hG
  have hx : (1 : Int32) + nI c = nI (1 + c) := nI_add 1 c
  have hx1 : ¬ nI (1 + c) < (1 : Int32) := q_nlt (b := 1) (by omega) (by omega)
  have hx9 : nI (1 + c) ≤ (9 : Int32) := q_le (b := 9) (by omega) (by decide)
  have hg := hG.2.2 c hc
  obtain ⟨a, b, p, g, e0, ha, e1, hb1, hb5, e2, hp, e5, hgb, hh⟩ := id hg
  have n310 : ∀ (y6 : Int32), ((y6 = 0 ∧ (¬ hasT M c = true ∨ ons M c = true)) ∨ (¬ y6 = 0 ∧ hasT M c = true ∧ ons M c = false)) → ∃ (R' HR' M' : Nat → Int32) (HS' HN' : Int32) (q' : Nat), fL_law_J310 fu R HR HS HN y6 (nI q) (nI c) = some (.inl (R', HR', HS', HN', nI (c + 1))) ∧ OV R' M' n t q' ∧ q' ≤ c + 1 ∧ HI HS' HN' := by
    intro y6 h6
    rcases h6 with ⟨rfl, hb⟩ | ⟨hy, hT, ho⟩
    · refine ⟨R, HR, M, HS, HN, q, ?_, ⟨hR, hG, h3, h0⟩, by omega, hH⟩
      unfold fL_law_J310
      refine obs (needs_x hR hW hc) ?_
      refine obs (crane0 hR hc (by omega)) ?_
      refine obs (crane4 hR hc (by omega)) ?_
      rw [hx]
      refine obs (override_b hR hc hx1 hx9 hb) ?_
      rw [if_pos rfl, if_pos rfl]
      refine obs (notes_x hR) ?_
      rw [h3, if_pos rfl]
      exact law_481 hR hG (by omega)
    · obtain ⟨R', HR', HS', HN', o1, o2, o3⟩ := override_x (HR := HR) hR hH (show 12 < fu by omega) hc hx1 hx9 hT (by rw [ho]; decide) (show q < 10 by omega) h3
      have hG' : GD (ovM M c q (nI (1 + c)) (msk (cnf (stp M c) n) 6)) n := GD_ov hn hG hc ho hT (by omega)
      have hW' := GD_wf hG'
      have hcf : msk (cnf (ovM M c q (nI (1 + c)) (msk (cnf (stp M c) n) 6)) n) 6 = msk (cnf (stp M c) n) 6 := msk_congr (fun z hz => cnf_congr (fun d hd k hk => ovM_F (by omega) hk) hz)
      have hF0 : F (ovM M c q (nI (1 + c)) (msk (cnf (stp M c) n) 6)) c 0 = jrem ((F M c 0 + F M c 4) + (36 : Int32)) (36 : Int32) := by
        rw [ovM_F (by omega) (by decide), stp_F]
        split <;> rfl
      have hF1 : F (ovM M c q (nI (1 + c)) (msk (cnf (stp M c) n) 6)) c 1 = F M c 1 := by
        rw [ovM_F (by omega) (by decide), stp_F]
        split <;> rfl
      have hnd : need (ovM M c q (nI (1 + c)) (msk (cnf (stp M c) n) 6)) c = need M c - F M c 1 := by
        rw [(need_congr (M := stp M c) (c := c) (fun k hk _ => ovM_F (by omega) (by omega))).1]
        exact need_stp ho hT hg
      refine ⟨R', HR', ovM M c q (nI (1 + c)) (msk (cnf (stp M c) n) 6), HS', HN', q + 1, ?_, ⟨o3, hG', ovM_3, by rw [ovM_lo (by decide)]; exact h0⟩, by omega, o2⟩
      have hq10 : q + 1 ≤ 10 := by omega
      unfold fL_law_J310
      refine obs (needs_x hR hW hc) ?_
      refine obs (crane0 hR hc (by omega)) ?_
      refine obs (crane4 hR hc (by omega)) ?_
      rw [hx]
      refine obs o1 ?_
      dsimp only
      rw [if_neg hy]
      refine obs (conflicts_x o3 (by omega)) ?_
      rw [hcf, if_pos rfl]
      refine obs (crane0 o3 hc (by omega)) ?_
      rw [hF0, if_pos rfl]
      refine obs (needs_x o3 hW' hc) ?_
      refine obs (crane1 o3 hc (by omega)) ?_
      rw [hnd, hF1, if_pos rfl]
      refine obs (notes_x o3) ?_
      rw [ovM_3, nI_1, if_pos rfl]
      refine obs (note_x (w := 0) o3 hq10 ovM_3 (by omega) (by decide)) ?_
      refine obs (time_x o3) ?_
      rw [ovM_n0, ovM_lo (by decide), if_pos rfl]
      refine obs (note_x (w := 1) o3 hq10 ovM_3 (by omega) (by decide)) ?_
      rw [ovM_n1, if_pos rfl]
      refine obs (note_x (w := 2) o3 hq10 ovM_3 (by omega) (by decide)) ?_
      rw [ovM_n2, if_pos rfl]
      refine obs (note_x (w := 3) o3 hq10 ovM_3 (by omega) (by decide)) ?_
      rw [ovM_n3, if_pos rfl]
      exact law_481 o3 hG' (by omega)
  have head : ∀ (y6 : Int32) r, fL_law_J310 fu R HR HS HN y6 (nI q) (nI c) = r → (hasT M c = false → y6 = 0) → (hasT M c = true → F M c 5 = 0 → y6 = 1) → (hasT M c = true → ¬ F M c 5 = 0 → y6 = 0) → fL_law_L272 fu R2 y2 (nI n) (R, HR, HS, HN, nI c) = r := by
    intro y6 r hr p1 p2 p3
    unfold fL_law_L272
    dsimp only
    rw [if_neg (q_nle hc (by omega))]
    refine obs (notes_x hR) ?_
    refine obs (lhasT hR hc (by omega)) ?_
    rw [h3]
    cases hT : hasT M c with
    | false =>
      rw [if_neg (by decide), ← p1 hT]
      exact hr
    | true =>
      rw [if_pos rfl]
      refine obs (crane5 hR hc (by omega)) ?_
      by_cases h50 : F M c 5 = (0 : Int32)
      · rw [if_pos h50, ← p2 hT h50]
        exact hr
      · rw [if_neg h50, ← p3 hT h50]
        exact hr
  cases hT : hasT M c with
  | false =>
    obtain ⟨R', HR', M', HS', HN', q', z1, z2⟩ := n310 0 (Or.inl ⟨rfl, Or.inl (by rw [hT]; decide)⟩)
    exact ⟨R', HR', M', HS', HN', q', head 0 _ z1 (fun _ => rfl) (fun z => by rw [hT] at z; cases z) (fun z => by rw [hT] at z; cases z), z2⟩
  | true =>
    by_cases h50 : F M c 5 = (0 : Int32)
    · have ho : ons M c = false := by
        unfold ons
        rw [h50]
        rfl
      obtain ⟨R', HR', M', HS', HN', q', z1, z2⟩ := n310 1 (Or.inr ⟨by decide, hT, ho⟩)
      exact ⟨R', HR', M', HS', HN', q', head 1 _ z1 (fun z => by rw [hT] at z; cases z) (fun _ _ => rfl) (fun _ z => absurd h50 z), z2⟩
    · have ho : ons M c = true := by
        cases z : ons M c with
        | true => rfl
        | false =>
          have := ons_0 e5 (by omega) z
          rw [e5, this] at h50
          exact absurd rfl h50
      obtain ⟨R', HR', M', HS', HN', q', z1, z2⟩ := n310 0 (Or.inl ⟨rfl, Or.inr ho⟩)
      exact ⟨R', HR', M', HS', HN', q', head 0 _ z1 (fun _ => rfl) (fun _ z => absurd z h50) (fun _ _ => rfl), z2⟩
theorem law_269 (hn4 : n ≤ 4) (hO : OK R M n t) (hH : HI HS HN) (hfu : 2000 < fu) (R2 : Nat → Int32) (y2 : Int32) (next : ∀ (R' HR' M' : Nat → Int32) (HS' HN' : Int32), Rel R' M' n → GD M' n → M' 0 = nI t → HI HS' HN' → fL_law_J497 fu R' R2 HR' HS' HN' (nI n) y2 = some true) : fL_law_J269 fu R R2 HR HS HN (nI n) y2 = some true := by
  obtain ⟨r, h1, h2⟩ := lp_ex (body := fL_law_L272 fu R2 y2 (nI n)) (fun i (s : (Nat → Int32) × (Nat → Int32) × Int32 × Int32 × Int32) => (∃ M' q, OV s.1 M' n t q ∧ q ≤ i) ∧ HI s.2.2.1 s.2.2.2.1 ∧ s.2.2.2.2 = nI i) (fun r => r = true) n
    (by
      rintro i hi ⟨Y, H3, a, b, t3⟩ ⟨⟨M', q, q1, q2⟩, q3, q4⟩
      dsimp only at q1 q3 q4
      subst q4
      obtain ⟨R', HR', M'', HS', HN', q', z1, z2, z3, z4⟩ := law_272 (HR := H3) q1 q3 hfu hi q2 R2 y2
      exact ⟨_, z1, ⟨M'', q', z2, z3⟩, z4, rfl⟩)
    (by
      rintro ⟨Y, H3, a, b, t3⟩ ⟨⟨M', q, q1, q2⟩, q3, q4⟩
      dsimp only at q1 q3 q4
      subst q4
      refine ⟨true, ?_, rfl⟩
      unfold fL_law_L272
      dsimp only
      rw [if_pos (q_le (Nat.le_refl n) (by omega))]
      refine obs (next Y H3 M' a b q1.1 q1.2.1 q1.2.2.2 q3) ?_
      rfl)
    n fu 0 (R, HR, HS, HN, (0 : Int32)) (by omega) (by omega) ⟨⟨M, 0, ⟨hO.1, hO.2.1, hO.2.2.2.1, hO.2.2.2.2⟩, by omega⟩, hH, rfl⟩
  subst h2
  unfold fL_law_J269
  exact h1
end LWB
