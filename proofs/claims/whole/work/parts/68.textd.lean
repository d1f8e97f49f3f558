/-! the calls on text -/
def TXT (TB : Nat → Int32) (LN : Int32) (MX : Nat → Int32) (ML : Int32) : Prop := ∃ l, l ≤ 80 ∧ LN = nI l ∧ ML = nI l ∧ TB = MX ∧ ∀ j, j < l → 0 ≤ (MX j).toInt
section TEXTD
variable {R HR M TB MX TC TW TG : Nat → Int32} {HS HN SV LN ML : Int32} {fu : Nat}
theorem type_p (h : TXT TB LN MX ML) (x1 : Int32) : ∃ v TB' LN' MX' ML', fX3_type TB LN x1 = some (v, TB', LN') ∧ fX4_type MX ML x1 = some (v, MX', ML') ∧ TXT TB' LN' MX' ML' := by
  have h0 := h
  obtain ⟨l, hl, rfl, rfl, rfl, hx⟩ := h
  unfold fX3_type fX4_type
  rw [if_in2, in_e, Option.bind_some]
  by_cases hb : (0 : Int32).toInt ≤ x1.toInt ∧ x1.toInt ≤ (255 : Int32).toInt
  · rw [decide_eq_true hb, if_pos rfl, if_pos rfl]
    unfold fX2_isFull
    by_cases h80 : l = 80
    · subst h80
      rw [if_neg (show ¬ nI 80 < (80 : Int32) by decide), Option.bind_some, if_pos rfl, if_pos (show nI 80 = (80 : Int32) from rfl)]
      exact ⟨_, TB, _, TB, _, rfl, rfl, h0⟩
    · rw [if_pos (show nI l < (80 : Int32) from q_lt (b := 80) (by omega) (by decide)), Option.bind_some, if_neg (by decide), if_neg (show ¬ nI l = (80 : Int32) from q_ne (b := 80) h80 (by omega) (by decide))]
      unfold fX2_append
      rw [wr_n (show l < 80 by omega) (by decide), Option.bind_some, Option.bind_some, nI_1]
      refine ⟨_, upd TB l x1, _, upd TB l x1, _, rfl, rfl, l + 1, by omega, rfl, rfl, rfl, fun j hj => ?_⟩
      by_cases e : j = l
      · subst e
        rw [upd_eq]
        exact hb.1
      · rw [upd_ne e]
        exact hx j (by omega)
  · rw [decide_eq_false hb, if_neg (by decide), if_neg (by decide)]
    exact ⟨_, TB, _, TB, _, rfl, rfl, h0⟩
theorem clearText_p (h : TXT TB LN MX ML) : ∃ v LN' ML', fX3_clearText LN = some (v, LN') ∧ fX4_clearText ML = some (v, ML') ∧ TXT TB LN' MX ML' := by
  obtain ⟨l, hl, rfl, rfl, rfl, hx⟩ := h
  exact ⟨nI l, nI 0, nI 0, rfl, rfl, 0, by omega, rfl, rfl, rfl, fun j hj => absurd hj (by omega)⟩
theorem Cp_refl {n : Nat} (hR : Rel R M n) : Cp M M n := ⟨hR.2.2.1, fun c hc => ⟨rfl, rfl⟩⟩
theorem textFault_p (hfu : 2000 < fu) (h : INV R HR HS HN M SV) (ht : TXT TB LN MX ML) : ∃ v PS TC' TW' TG' CM M' MA, fX3_textFault fu R TB LN TC TW TG = some (v, PS, TC', TW', TG', CM) ∧ fX4_textFault fu M MX ML = some (v, M', MA) ∧ INV R HR HS HN M' SV := by
  have h0 := h
  obtain ⟨n, p, sv, hR, hW, hH, -, -, -⟩ := h
  obtain ⟨l, hl, rfl, rfl, rfl, hx⟩ := ht
  unfold fX3_textFault fX4_textFault
  rcases all_e (R := R) (M := M) hl hx (show 200 < fu by omega) hR l 0 0 (by omega) (by omega) (by omega) with ⟨f, q1, q2, q3⟩ | ⟨cs, e, q1, q2, q3, q4⟩
  · obtain ⟨⟨a1, a2, a3, a4, a5⟩, z1⟩ := q2 TC TW TG fu (by omega)
    have z1 : fX2_read fu TB (nI l) TC TW TG R = some (nI f, a1, a2, a3, a4, a5) := z1
    obtain ⟨M'', z2, z3⟩ := q3 M false fu (Cp_refl hR) (by omega)
    have z2 : fX4_readsAll fu M TB (nI l) false = some (false, M'', nI f) := z2
    obtain rfl := z3 rfl
    rw [z1, z2, Option.bind_some, Option.bind_some]
    exact ⟨_, _, _, _, _, _, _, _, rfl, if_neg (show ¬ false = true by decide), h0⟩
  · obtain ⟨TC', TW', TG', z1, -, -⟩ := q3 TC TW TG fu (by omega)
    have z1 : fX2_read fu TB (nI l) TC TW TG R = some (-100, nI e, TC', TW', TG', nI (0 + cs.length)) := z1
    have z2 : fX4_readsAll fu M TB (nI l) false = some (true, M, nI e) := q4 M false fu (Cp_refl hR) (by omega)
    rw [z1, z2, Option.bind_some, Option.bind_some]
    exact ⟨_, _, _, _, _, _, _, _, rfl, if_pos rfl, h0⟩
theorem carry_loop {n : Nat} (hn4 : n ≤ 4) {T1 T2 T3 : Nat → Int32} (K : Nat) (hK : K ≤ 20) : ∀ (cs : List (Nat × Int32 × Nat)) (k m : Nat) (X M' : Nat → Int32), okC n cs → k + cs.length = K → cs.length < m → St T1 T2 T3 k cs → Rel X M' n → WF M' n → ∃ X', lp (fX2_carryOut_L2 T1 T2 T3 (nI K)) m (X, nI k) = some X' ∧ Rel X' (aimL M' cs) n ∧ WF (aimL M' cs) n ∧ ∀ j, 88 ≤ j → aimL M' cs j = M' j := by
  intro cs
  induction cs with
  | nil =>
    intro k m X M' ho hk hm hS hR hW
    obtain ⟨m, rfl⟩ : ∃ q, m = q + 1 := ⟨m - 1, by omega⟩
    have hk : k + 0 = K := hk
    refine ⟨X, lp_inr ?_, hR, hW, fun j _ => rfl⟩
    unfold fX2_carryOut_L2
    exact if_pos (q_le (show K ≤ k by omega) (show k < 2 ^ 31 by omega))
  | cons q cs ih =>
    intro k m X M' ho hk hm hS hR hW
    rw [List.length_cons] at hk hm
    obtain ⟨m, rfl⟩ : ∃ q, m = q + 1 := ⟨m - 1, by omega⟩
    obtain ⟨s1, s2, s3, s4⟩ := hS
    obtain ⟨o1, o2, o3⟩ := ho q (List.mem_cons_self ..)
    obtain ⟨X', d1, d2⟩ := cAim_e hR hW o1 o2 o3
    have hb : fX2_carryOut_L2 T1 T2 T3 (nI K) (X, nI k) = some (.inl (X', nI (k + 1))) := by
      unfold fX2_carryOut_L2
      refine (if_neg (q_nle (show k < K by omega) (show K < 2 ^ 31 by omega))).trans ?_
      show (Option.bind (rdA T1 20 (nI k)) _) = _
      rw [rd_n (show k < 20 by omega) (by decide), Option.bind_some]
      show (Option.bind (rdA T3 20 (nI k)) _) = _
      rw [rd_n (show k < 20 by omega) (by decide), Option.bind_some]
      show (Option.bind (rdA T2 20 (nI k)) _) = _
      rw [rd_n (show k < 20 by omega) (by decide), Option.bind_some, s1, s2, s3]
      show (Option.bind (fX1_aim X (nI q.1) (nI q.2.2) q.2.1) _) = _
      rw [d1, Option.bind_some, nI_1]
    obtain ⟨X2, e1, e2, e3, e4⟩ := ih (k + 1) m X' _ (fun q' hq' => ho q' (List.mem_cons_of_mem _ hq')) (by omega) (by omega) s4 d2 (aimM_WF hW o1 o2 o3)
    refine ⟨X2, ?_, e2, e3, fun j hj => (e4 j hj).trans (aimM_hi (by omega) hj)⟩
    rw [lp_inl hb]
    exact e1
theorem command_p (hfu : 2000 < fu) (h : INV R HR HS HN M SV) (ht : TXT TB LN MX ML) : ∃ v R' HR' HS' HN' PS TC' TW' TG' CM M' SV' MA, fX3_command fu R HR HS HN TB LN TC TW TG = some (v, R', HR', HS', HN', PS, TC', TW', TG', CM) ∧ fX4_command fu M SV MX ML = some (v, M', SV', MA) ∧ INV R' HR' HS' HN' M' SV' := by
  have h0 := h
  obtain ⟨n, p, sv, hR, hW, hH, rfl, rfl, rfl⟩ := h
  obtain ⟨l, hl, rfl, rfl, rfl, hx⟩ := ht
  have hn4 := hR.1
  unfold fX3_command fX4_command
  rcases all_e (R := R) (M := M) hl hx (show 200 < fu by omega) hR l 0 0 (by omega) (by omega) (by omega) with ⟨f, q1, q2, q3⟩ | ⟨cs, e, q1, q2, q3, q4⟩
  · obtain ⟨⟨a1, a2, a3, a4, a5⟩, z1⟩ := q2 TC TW TG fu (by omega)
    have z1 : fX2_read fu TB (nI l) TC TW TG R = some (nI f, a1, a2, a3, a4, a5) := z1
    obtain ⟨M'', z2, z3⟩ := q3 M false fu (Cp_refl hR) (by omega)
    have z2 : fX4_readsAll fu M TB (nI l) false = some (false, M'', nI f) := z2
    obtain rfl := z3 rfl
    rw [z1, z2, Option.bind_some, Option.bind_some]
    exact ⟨_, _, _, _, _, _, _, _, _, _, _, _, _, if_neg (neg100 f (by omega)), if_neg (show ¬ false = true by decide), h0⟩
  · obtain ⟨TC', TW', TG', z1, -, zS⟩ := q3 TC TW TG fu (by omega)
    have z1 : fX2_read fu TB (nI l) TC TW TG R = some (-100, nI e, TC', TW', TG', nI (0 + cs.length)) := z1
    have z2 : fX4_readsAll fu M TB (nI l) false = some (true, M, nI e) := q4 M false fu (Cp_refl hR) (by omega)
    obtain ⟨HR', k1, k2, k3, k4, k5⟩ := keep_pair (fu := fu) (by omega) hR hW hH
    have cp : Cp (svM M sv) M n := ⟨k4.2.2.1, fun c hc => ⟨F_agree (fun j hj => svM_lo (by omega)) (by omega) (by decide), F_agree (fun j hj => svM_lo (by omega)) (by omega) (by decide)⟩⟩
    have z3 : fX4_readsAll fu (svM M sv) TB (nI l) true = some (true, aimL (svM M sv) cs, nI e) := q4 (svM M sv) true fu cp (by omega)
    obtain ⟨X', c1, c2, c3, c4⟩ := carry_loop hn4 (0 + cs.length) q2 cs 0 fu R (svM M sv) q1 rfl (by omega) zS k4 k5
    have c1 : fX2_carryOut fu TC' TW' TG' (nI (0 + cs.length)) R = some X' := c1
    have t1 := cTargets_e (X := X') (fu := fu) c2 (by omega)
    have t2 := targets_e (M := aimL (svM M sv) cs) (fu := fu) (n := n) (by omega) hn4 c2.2.2.1
    rw [z1, z2, Option.bind_some, Option.bind_some]
    refine ⟨nI (cnt (hasT (aimL (svM M sv) cs)) n), X', HR', nI (min (sv + 1) 5), nI ((p + 1) % 5), nI e, TC', TW', TG', nI (0 + cs.length), aimL (svM M sv) cs, nI (min (sv + 1) 5), nI e, ?_, ?_, n, (p + 1) % 5, min (sv + 1) 5, c2, c3, k3.agree (fun j h1 _ => c4 j (by omega)), rfl, rfl, rfl⟩
    · refine (if_pos rfl).trans ?_
      rw [k1, Option.bind_some]
      show (Option.bind (fX2_carryOut fu TC' TW' TG' (nI (0 + cs.length)) R) _) = _
      rw [c1, Option.bind_some, t1, Option.bind_some]
      exact obs (bc_msk _ n hn4) rfl
    · refine (if_pos rfl).trans ?_
      show (Option.bind (fX4_saves fu M (nI sv)) _) = _
      rw [k2, Option.bind_some]
      show (Option.bind (fX4_readsAll fu (svM M sv) TB (nI l) true) _) = _
      rw [z3, Option.bind_some]
      show (Option.bind (fX4_targets fu (aimL (svM M sv) cs)) _) = _
      rw [t2, Option.bind_some]
end TEXTD
