noncomputable def fL_law_J731 (fu : Nat) (R : (Nat → Int32)) (R2 : (Nat → Int32)) (HR : (Nat → Int32)) (HS : Int32) (HN : Int32) : Option (Bool) := Option.bind (fX3_digest fu R) fun v42 => Option.bind (fX3_addCrane R HR HS HN (36 : Int32) (1 : Int32) (0 : Int32)) fun v44 => if v44.1 = (-102 : Int32) then (Option.bind (fX3_setArc fu v44.2.1 R2 v44.2.2.1 v44.2.2.2.1 v44.2.2.2.2 (0 : Int32) (6 : Int32) (0 : Int32) (0 : Int32)) fun v47 => if v47.1 = (-101 : Int32) then (Option.bind (fX3_setArc fu v47.2.1 v47.2.2.1 v47.2.2.2.1 v47.2.2.2.2.1 v47.2.2.2.2.2 (0 : Int32) (0 : Int32) (36 : Int32) (0 : Int32)) fun v50 => if v50.1 = (-102 : Int32) then (Option.bind (fX3_slew v50.2.1 v50.2.2.2.1 v50.2.2.2.2.1 v50.2.2.2.2.2 (0 : Int32) (0 : Int32) (2 : Int32)) fun v53 => if v53.1 = (-102 : Int32) then (Option.bind (fX3_tick fu v53.2.1 v53.2.2.1 v53.2.2.2.1 v53.2.2.2.2 (201 : Int32)) fun v56 => if v56.1 = (-102 : Int32) then (Option.bind (fX3_override fu v56.2.1 v56.2.2.1 v56.2.2.2.1 v56.2.2.2.2 (0 : Int32) (10 : Int32)) fun v59 => if v59.1 = (-102 : Int32) then (Option.bind (fX3_crane fu v59.2.1 (0 : Int32) (10 : Int32)) fun v62 => if v62 = (-102 : Int32) then (Option.bind (fX3_notes v59.2.1) fun v65 => Option.bind (fX3_note v59.2.1 v65 (0 : Int32)) fun v67 => if v67 = (-101 : Int32) then (Option.bind (fX3_waits fu v59.2.1 v50.2.2.1 (0 : Int32) (0 : Int32)) fun v70 => if v70.1 = (-102 : Int32) then (Option.bind (fX3_digest fu v59.2.1) fun v73 => if (lg_cmp v73 v42) = (0 : Int32) then (some true) else (some false)) else (some false)) else (some false)) else (some false)) else (some false)) else (some false)) else (some false)) else (some false)) else (some false)) else (some false)
noncomputable def fL_law_L678 (fu : Nat) (y3 : Int32) (y4 : Int32) (t678 : (Nat → Int32) × (Nat → Int32) × (Nat → Int32) × Int32 × Int32 × Int32) : Option (((Nat → Int32) × (Nat → Int32) × (Nat → Int32) × Int32 × Int32 × Int32) ⊕ (Bool)) := if y3 ≤ t678.2.2.2.2.2 then (Option.bind (fL_law_J731 fu t678.1 t678.2.1 t678.2.2.1 t678.2.2.2.1 t678.2.2.2.2.1) fun r_ => some (.inr (r_))) else (Option.bind (fX3_crane fu t678.1 t678.2.2.2.2.2 (0 : Int32)) fun v76 => if v76 = y4 then (Option.bind (fX3_slew t678.1 t678.2.2.1 t678.2.2.2.1 t678.2.2.2.2.1 t678.2.2.2.2.2 (0 : Int32) (0 : Int32)) fun v79 => if v79.1 = (-103 : Int32) then (Option.bind (fX3_setArc fu v79.2.1 t678.2.1 v79.2.2.1 v79.2.2.2.1 v79.2.2.2.2 t678.2.2.2.2.2 (0 : Int32) (0 : Int32) (0 : Int32)) fun v82 => if v82.1 = (-103 : Int32) then (some (.inl (v82.2.1, v82.2.2.1, v82.2.2.2.1, v82.2.2.2.2.1, v82.2.2.2.2.2, t678.2.2.2.2.2 + (1 : Int32)))) else (some (.inr false))) else (some (.inr false))) else (some (.inr false)))
noncomputable def fL_law_J668 (fu : Nat) (R : (Nat → Int32)) (R2 : (Nat → Int32)) (HR : (Nat → Int32)) (HS : Int32) (HN : Int32) (y4 : Int32) (y3 : Int32) : Option (Bool) := Option.bind (fX3_tick fu R HR HS HN (18 : Int32)) fun v39 => lp (fL_law_L678 fu y3 y4) fu (v39.2.1, R2, v39.2.2.1, v39.2.2.2.1, v39.2.2.2.2, (0 : Int32))
noncomputable def fL_law_L633 (fu : Nat) (R2 : (Nat → Int32)) (y3 : Int32) (y4 : Int32) (t633 : (Nat → Int32) × (Nat → Int32) × Int32 × Int32 × Int32) : Option (((Nat → Int32) × (Nat → Int32) × Int32 × Int32 × Int32) ⊕ (Bool)) := if y3 ≤ t633.2.2.2.2 then (Option.bind (fL_law_J668 fu t633.1 R2 t633.2.1 t633.2.2.1 t633.2.2.2.1 y4 y3) fun r_ => some (.inr (r_))) else (Option.bind (fX3_leave fu t633.1 t633.2.1 t633.2.2.1 t633.2.2.2.1 t633.2.2.2.2 true) fun v97 => if v97.1 < (0 : Int32) then (some (.inr false)) else (Option.bind (fX3_leave fu v97.2.1 v97.2.2.1 v97.2.2.2.1 v97.2.2.2.2 t633.2.2.2.2 true) fun v100 => if v100.1 = (1 : Int32) then (some (.inl (v100.2.1, v100.2.2.1, v100.2.2.2.1, v100.2.2.2.2, t633.2.2.2.2 + (1 : Int32)))) else (some (.inr false))))
noncomputable def fL_law_J591 (fu : Nat) (R : (Nat → Int32)) (R2 : (Nat → Int32)) (HR : (Nat → Int32)) (HS : Int32) (HN : Int32) (y3 : Int32) (y2 : Int32) : Option (Bool) := Option.bind (fL_low (jshr y2 (4 : Int32)) (36 : Int32)) fun v28 => Option.bind (fX3_setWind R HR HS HN v28) fun v30 => Option.bind (fX3_tick fu v30.2.1 v30.2.2.1 v30.2.2.2.1 v30.2.2.2.2 (175 : Int32)) fun v32 => if v32.1 < (175 : Int32) then (some false) else (Option.bind (fX3_allDone fu v32.2.1 R2) fun v35 => if v35.1 = (0 : Int32) then (lp (fL_law_L633 fu v35.2 y3 v28) fu (v32.2.1, v32.2.2.1, v32.2.2.2.1, v32.2.2.2.2, (0 : Int32))) else (some false))
noncomputable def fL_law_L540 (fu : Nat) (R : (Nat → Int32)) (HR : (Nat → Int32)) (HS : Int32) (HN : Int32) (y2 : Int32) (y3 : Int32) (t540 : (Nat → Int32) × Int32) : Option (((Nat → Int32) × Int32) ⊕ (Bool)) := if y3 ≤ t540.2 then (Option.bind (fL_law_J591 fu R t540.1 HR HS HN y3 y2) fun r_ => some (.inr (r_))) else (Option.bind (fX3_blocker fu R t540.2) fun v112 => if v112 = (-100 : Int32) then (Option.bind (fX3_done fu R t540.1 t540.2) fun v115 => Option.bind (fX3_needs R t540.2) fun v117 => if v115.1 = v117 then (Option.bind (fX3_waits fu R v115.2 t540.2 (50 : Int32)) fun v120 => if v120.1 = (0 : Int32) then (some (.inl (v120.2, t540.2 + (1 : Int32)))) else (some (.inr false))) else (some (.inr false))) else (some (.inr false)))
noncomputable def fL_law_J537 (fu : Nat) (R : (Nat → Int32)) (R2 : (Nat → Int32)) (HR : (Nat → Int32)) (HS : Int32) (HN : Int32) (y3 : Int32) (y2 : Int32) : Option (Bool) := lp (fL_law_L540 fu R HR HS HN y2 y3) fu (R2, (0 : Int32))
noncomputable def fL_law_L509 (y4 : Int32) (t509 : (Nat → Int32) × (Nat → Int32) × Int32 × Int32 × Int32) : Option (((Nat → Int32) × (Nat → Int32) × Int32 × Int32 × Int32) ⊕ (((Nat → Int32) × (Nat → Int32) × Int32 × Int32 × Int32) ⊕ (Bool))) := if (6 : Int32) ≤ t509.2.2.2.2 then (some (.inr (.inl (t509.1, t509.2.1, t509.2.2.1, t509.2.2.2.1, y4 + (1 : Int32))))) else (Option.bind (fX3_removeArc t509.1 t509.2.1 t509.2.2.1 t509.2.2.2.1 y4 t509.2.2.2.2) fun v139 => some (.inl (v139.2.1, v139.2.2.1, v139.2.2.2.1, v139.2.2.2.2, t509.2.2.2.2 + (1 : Int32))))
noncomputable def fL_law_L500 (fu : Nat) (R2 : (Nat → Int32)) (y2 : Int32) (y3 : Int32) (t500 : (Nat → Int32) × (Nat → Int32) × Int32 × Int32 × Int32) : Option (((Nat → Int32) × (Nat → Int32) × Int32 × Int32 × Int32) ⊕ (Bool)) := if y3 ≤ t500.2.2.2.2 then (Option.bind (fL_law_J537 fu t500.1 R2 t500.2.1 t500.2.2.1 t500.2.2.2.1 y3 y2) fun r_ => some (.inr (r_))) else (lp (fL_law_L509 t500.2.2.2.2) fu (t500.1, t500.2.1, t500.2.2.1, t500.2.2.2.1, (0 : Int32)))
noncomputable def fL_law_J497 (fu : Nat) (R : (Nat → Int32)) (R2 : (Nat → Int32)) (HR : (Nat → Int32)) (HS : Int32) (HN : Int32) (y3 : Int32) (y2 : Int32) : Option (Bool) := lp (fL_law_L500 fu R2 y2 y3) fu (R, HR, HS, HN, (0 : Int32))
noncomputable def fL_law_J481 (fu : Nat) (R : (Nat → Int32)) (HR : (Nat → Int32)) (HS : Int32) (HN : Int32) (y4 : Int32) : Option (((Nat → Int32) × (Nat → Int32) × Int32 × Int32 × Int32) ⊕ (Bool)) := Option.bind (fL_isSound fu R true) fun v195 => if v195 = true then (some (.inl (R, HR, HS, HN, y4 + (1 : Int32)))) else (some (.inr false))
noncomputable def fL_law_J310 (fu : Nat) (R : (Nat → Int32)) (HR : (Nat → Int32)) (HS : Int32) (HN : Int32) (y6 : Int32) (y5 : Int32) (y4 : Int32) : Option (((Nat → Int32) × (Nat → Int32) × Int32 × Int32 × Int32) ⊕ (Bool)) := Option.bind (fX3_needs R y4) fun v158 => Option.bind (fX3_crane fu R y4 (0 : Int32)) fun v160 => Option.bind (fX3_crane fu R y4 (4 : Int32)) fun v162 => Option.bind (fX3_override fu R HR HS HN y4 ((1 : Int32) + y4)) fun v164 => if y6 = (0 : Int32) then (if v164.1 = (-103 : Int32) then (Option.bind (fX3_notes v164.2.1) fun v200 => if v200 = y5 then (fL_law_J481 fu v164.2.1 v164.2.2.1 v164.2.2.2.1 v164.2.2.2.2 y4) else (some (.inr false))) else (some (.inr false))) else (Option.bind (fX3_conflicts fu v164.2.1) fun v167 => if v164.1 = v167 then (Option.bind (fX3_crane fu v164.2.1 y4 (0 : Int32)) fun v170 => if v170 = (jrem ((v160 + v162) + (36 : Int32)) (36 : Int32)) then (Option.bind (fX3_needs v164.2.1 y4) fun v173 => Option.bind (fX3_crane fu v164.2.1 y4 (1 : Int32)) fun v175 => if v173 = (v158 - v175) then (Option.bind (fX3_notes v164.2.1) fun v178 => if v178 = (y5 + (1 : Int32)) then (Option.bind (fX3_note v164.2.1 y5 (0 : Int32)) fun v181 => Option.bind (fX3_time v164.2.1) fun v183 => if v181 = v183 then (Option.bind (fX3_note v164.2.1 y5 (1 : Int32)) fun v186 => if v186 = y4 then (Option.bind (fX3_note v164.2.1 y5 (2 : Int32)) fun v189 => if v189 = ((1 : Int32) + y4) then (Option.bind (fX3_note v164.2.1 y5 (3 : Int32)) fun v192 => if v192 = v164.1 then (fL_law_J481 fu v164.2.1 v164.2.2.1 v164.2.2.2.1 v164.2.2.2.2 y4) else (some (.inr false))) else (some (.inr false))) else (some (.inr false))) else (some (.inr false))) else (some (.inr false))) else (some (.inr false))) else (some (.inr false))) else (some (.inr false)))
noncomputable def fL_law_L272 (fu : Nat) (R2 : (Nat → Int32)) (y2 : Int32) (y3 : Int32) (t272 : (Nat → Int32) × (Nat → Int32) × Int32 × Int32 × Int32) : Option (((Nat → Int32) × (Nat → Int32) × Int32 × Int32 × Int32) ⊕ (Bool)) := if y3 ≤ t272.2.2.2.2 then (Option.bind (fL_law_J497 fu t272.1 R2 t272.2.1 t272.2.2.1 t272.2.2.2.1 y3 y2) fun r_ => some (.inr (r_))) else (Option.bind (fX3_notes t272.1) fun v153 => Option.bind (fL_hasTarget fu t272.1 t272.2.2.2.2) fun v155 => if v155 = true then (Option.bind (fX3_crane fu t272.1 t272.2.2.2.2 (5 : Int32)) fun v203 => if v203 = (0 : Int32) then (fL_law_J310 fu t272.1 t272.2.1 t272.2.2.1 t272.2.2.2.1 (1 : Int32) v153 t272.2.2.2.2) else (fL_law_J310 fu t272.1 t272.2.1 t272.2.2.1 t272.2.2.2.1 (0 : Int32) v153 t272.2.2.2.2)) else (fL_law_J310 fu t272.1 t272.2.1 t272.2.2.1 t272.2.2.2.1 (0 : Int32) v153 t272.2.2.2.2))
noncomputable def fL_law_J269 (fu : Nat) (R : (Nat → Int32)) (R2 : (Nat → Int32)) (HR : (Nat → Int32)) (HS : Int32) (HN : Int32) (y3 : Int32) (y2 : Int32) : Option (Bool) := lp (fL_law_L272 fu R2 y2 y3) fu (R, HR, HS, HN, (0 : Int32))
noncomputable def fL_law_J227 (fu : Nat) (R : (Nat → Int32)) (R2 : (Nat → Int32)) (HR : (Nat → Int32)) (HS : Int32) (HN : Int32) (y5 : Int32) (y4 : Int32) : Option (((Nat → Int32) × (Nat → Int32) × (Nat → Int32) × Int32 × Int32 × Int32) ⊕ (Bool)) := Option.bind (fL_isSound fu R false) fun v268 => if v268 = true then (if (jrem y4 (5 : Int32)) = (4 : Int32) then (Option.bind (fL_low (jshr y5 (5 : Int32)) (40 : Int32)) fun v273 => Option.bind (fL_isForetold fu R R2 HR HS HN ((1 : Int32) + v273)) fun v275 => if v275.1 = true then (some (.inl (v275.2.1, v275.2.2.1, v275.2.2.2.1, v275.2.2.2.2.1, v275.2.2.2.2.2, y4 + (1 : Int32)))) else (some (.inr false))) else (some (.inl (R, R2, HR, HS, HN, y4 + (1 : Int32))))) else (some (.inr false))
noncomputable def fL_law_J191 (fu : Nat) (R : (Nat → Int32)) (R2 : (Nat → Int32)) (HR : (Nat → Int32)) (HS : Int32) (HN : Int32) (y8 : Int32) (y6 : Int64) (y5 : Int32) (y4 : Int32) : Option (((Nat → Int32) × (Nat → Int32) × (Nat → Int32) × Int32 × Int32 × Int32) ⊕ (Bool)) := if y8 < (-100 : Int32) then (fL_law_J227 fu R R2 HR HS HN y5 y4) else (if ((jshr y5 (27 : Int32)) &&& (3 : Int32)) = (0 : Int32) then (Option.bind (fX3_undo R HR HS HN) fun v280 => if v280.1 < (0 : Int32) then (some (.inr false)) else (Option.bind (fX3_digest fu v280.2.1) fun v283 => if (lg_cmp v283 y6) = (0 : Int32) then (fL_law_J227 fu v280.2.1 R2 HR v280.2.2.1 v280.2.2.2 y5 y4) else (some (.inr false)))) else (fL_law_J227 fu R R2 HR HS HN y5 y4))
noncomputable def fL_law_L141 (fu : Nat) (L : Nat) (xs : Nat → Int32) (y2 : Int32) (y3 : Int32) (t141 : (Nat → Int32) × (Nat → Int32) × (Nat → Int32) × Int32 × Int32 × Int32) : Option (((Nat → Int32) × (Nat → Int32) × (Nat → Int32) × Int32 × Int32 × Int32) ⊕ (Bool)) := if (22 : Int32) ≤ t141.2.2.2.2.2 then (Option.bind (fL_law_J269 fu t141.1 t141.2.1 t141.2.2.1 t141.2.2.2.1 t141.2.2.2.2.1 y3 y2) fun r_ => some (.inr (r_))) else (Option.bind (fL_cell L xs ((5 : Int32) + t141.2.2.2.2.2)) fun v260 => Option.bind (fX3_digest fu t141.1) fun v262 => Option.bind (fL_changes fu t141.1 t141.2.1 t141.2.2.1 t141.2.2.2.1 t141.2.2.2.2.1 v260) fun v264 => if (-100 : Int32) ≤ v264.1 then (fL_law_J191 fu v264.2.1 v264.2.2.1 v264.2.2.2.1 v264.2.2.2.2.1 v264.2.2.2.2.2 v264.1 v262 v260 t141.2.2.2.2.2) else (Option.bind (fX3_digest fu v264.2.1) fun v286 => if (lg_cmp v286 v262) = (0 : Int32) then (fL_law_J191 fu v264.2.1 v264.2.2.1 v264.2.2.2.1 v264.2.2.2.2.1 v264.2.2.2.2.2 v264.1 v262 v260 t141.2.2.2.2.2) else (some (.inr false))))
noncomputable def fL_law_J138 (fu : Nat) (L : Nat) (xs : Nat → Int32) (R : (Nat → Int32)) (R2 : (Nat → Int32)) (HR : (Nat → Int32)) (HS : Int32) (HN : Int32) (y3 : Int32) (y2 : Int32) : Option (Bool) := lp (fL_law_L141 fu L xs y2 y3) fu (R, R2, HR, HS, HN, (0 : Int32))
noncomputable def fL_law_L77 (fu : Nat) (L : Nat) (xs : Nat → Int32) (R2 : (Nat → Int32)) (y2 : Int32) (y3 : Int32) (t77 : (Nat → Int32) × (Nat → Int32) × Int32 × Int32 × Int32) : Option (((Nat → Int32) × (Nat → Int32) × Int32 × Int32 × Int32) ⊕ (Bool)) := if y3 ≤ t77.2.2.2.2 then (Option.bind (fL_law_J138 fu L xs t77.1 R2 t77.2.1 t77.2.2.1 t77.2.2.2.1 y3 y2) fun r_ => some (.inr (r_))) else (Option.bind (fL_cell L xs ((1 : Int32) + t77.2.2.2.2)) fun v319 => Option.bind (fL_low v319 (36 : Int32)) fun v321 => Option.bind (fL_low (jshr v319 (6 : Int32)) (5 : Int32)) fun v323 => Option.bind (fL_low (jshr v319 (9 : Int32)) (10 : Int32)) fun v325 => Option.bind (fX3_addCrane t77.1 t77.2.1 t77.2.2.1 t77.2.2.2.1 v321 ((1 : Int32) + v323) v325) fun v327 => if v327.1 = t77.2.2.2.2 then (some (.inl (v327.2.1, v327.2.2.1, v327.2.2.2.1, v327.2.2.2.2, t77.2.2.2.2 + (1 : Int32)))) else (some (.inr false)))
noncomputable def fL_law_J14 (fu : Nat) (L : Nat) (xs : Nat → Int32) (R : (Nat → Int32)) (R2 : (Nat → Int32)) (HR : (Nat → Int32)) (HS : Int32) (HN : Int32) (TB : (Nat → Int32)) (LN : Int32) (TC : (Nat → Int32)) (TW : (Nat → Int32)) (TG : (Nat → Int32)) (y2 : Int32) : Option (Bool) := Option.bind (fX3_undo R HR HS HN) fun v3 => if v3.1 = (-103 : Int32) then (Option.bind (fX3_cycle fu v3.2.1) fun v6 => if v6 = (0 : Int32) then (Option.bind (fX3_conflicts fu v3.2.1) fun v9 => if v9 = (0 : Int32) then (Option.bind (fX3_allDone fu v3.2.1 R2) fun v12 => if v12.1 = (0 : Int32) then (Option.bind (fX3_command fu v3.2.1 HR v3.2.2.1 v3.2.2.2 TB LN TC TW TG) fun v15 => if v15.1 = (-103 : Int32) then (Option.bind (fX3_crane fu v15.2.1 (0 : Int32) (0 : Int32)) fun v18 => if v18 = (-101 : Int32) then (Option.bind (fL_low y2 (3 : Int32)) fun v21 => lp (fL_law_L77 fu L xs v12.2 y2 ((2 : Int32) + v21)) fu (v15.2.1, v15.2.2.1, v15.2.2.2.1, v15.2.2.2.2.1, (0 : Int32))) else (some false)) else (some false)) else (some false)) else (some false)) else (some false)) else (some false)
noncomputable def fL_law (fu : Nat) (L : Nat) (xs : Nat → Int32) (R : (Nat → Int32)) (R2 : (Nat → Int32)) (HR : (Nat → Int32)) (HS : Int32) (HN : Int32) (TB : (Nat → Int32)) (LN : Int32) (TC : (Nat → Int32)) (TW : (Nat → Int32)) (TG : (Nat → Int32)) : Option Bool := Option.bind (fL_cell L xs (0 : Int32)) fun v545 => fL_law_J14 fu L xs R R2 HR HS HN TB LN TC TW TG v545
set_option maxHeartbeats 8000000 in
set_option maxRecDepth 100000 in
theorem law_walk {p : Program} {e : Env} {s : State} {m : MethodId} {below : List Frame} {meth : Method} {c : Code} {H : Heap} {locs : List Loc} {ls : Array Slot} (l : Launch) {b L : Nat} {xs : Nat → Int32} (C0 : lw_At p s m meth c b L xs) (D : va_G) (cI : ClassId) (hK : kK D cI s) (fu : Nat) (a0 a1 a2 a3 a4 a5 a6 a7 a8 a9 a10 a11 : Nat) (R : (Nat → Int32)) (R2 : (Nat → Int32)) (HR : (Nat → Int32)) (HS : Int32) (HN : Int32) (TB : (Nat → Int32)) (LN : Int32) (PS : Int32) (TC : (Nat → Int32)) (TW : (Nat → Int32)) (TG : (Nat → Int32)) (CM : Int32) (hf : fL_law fu L xs R R2 HR HS HN TB LN TC TW TG = some true)
    (hP : va_P D vwCl (wX3 cI a0 a1 a2 a3 a4 a5 a6 a7 a8 a9 a10 a11 R R2 HR HS HN TB LN PS TC TW TG CM) H) (hD : va_D (fun q : Nat => s.heap.size ≤ q) (wX3 cI a0 a1 a2 a3 a4 a5 a6 a7 a8 a9 a10 a11 R R2 HR HS HN TB LN PS TC TW TG CM)) (hS : va_S (fun q : Nat => s.heap.size ≤ q) s.heap H locs) (hl : lv_has ls 10 [(1, .ref a0), (0, .ref b)]) :
    W p l e room_1 s m #[Value.ref b] below meth c H locs 12 1080 (lw_Z below #[Value.ref b] s) (F0 m 8 ls []) := by
  obtain ⟨hx, hb, hr, hml, hown, hts0, hX, hbl, hlk, hgv⟩ := id C0
  have hts : ∀ w ∈ wsL_law, w.before #[Value.ref b] s = true := fun w h => hts0 w (wsL_law_in w h)
  have hA : ∀ q : Nat, s.heap.size ≤ q → (fun q : Nat => s.heap.size ≤ q) q := fun _ h => h
  have hbA : ¬ (fun q : Nat => s.heap.size ≤ q) b := Nat.not_le.mpr hbl
  have hown : s.vm.findClass RL = some m.cls := hown
  generalize hAe : (fun q : Nat => s.heap.size ≤ q) = A at hA hbA hD hS
  have hAb : ∀ q : Nat, A q → s.heap.size ≤ q := fun q h => by rw [← hAe] at h; exact h
  unfold fL_law at hf
  refine kcut (D := D) (A := A) (fun K => ∀ (R : (Nat → Int32)) (R2 : (Nat → Int32)) (HR : (Nat → Int32)) (HS : Int32) (HN : Int32) (PS : Int32) (TC : (Nat → Int32)) (TW : (Nat → Int32)) (TG : (Nat → Int32)) (CM : Int32) (y5 : Int32) (y4 : Int32) (y3 : Int32) (y2 : Int32), fL_law_J731 fu R R2 HR HS HN = some true → K (wX3 cI a0 a1 a2 a3 a4 a5 a6 a7 a8 a9 a10 a11 R R2 HR HS HN TB LN PS TC TW TG CM) 10 [(5, .int y5), (4, .int y4), (3, .int y3), (2, .int y2), (1, .ref a0), (0, .ref b)] 731) ?_ (fun hJ731 => ?_)
  · intro R R2 HR HS HN PS TC TW TG CM y5 y4 y3 y2 hf H locs ls hP hD hS hl
    unfold fL_law_J731 at hf
    have hP : va_P D vwCl (wX3 cI a0 a1 a2 a3 a4 a5 a6 a7 a8 a9 a10 a11 R R2 HR HS HN TB LN PS TC TW TG CM) H := hP
    have hD : va_D A (wX3 cI a0 a1 a2 a3 a4 a5 a6 a7 a8 a9 a10 a11 R R2 HR HS HN TB LN PS TC TW TG CM) := hD
    have hl : lv_has ls 10 [(5, .int y5), (4, .int y4), (3, .int y3), (2, .int y2), (1, .ref a0), (0, .ref b)] := hl
    refine lv_aload_n hx hb dL_law_731 rfl (lv_at hl 4 rfl) ?_
    obtain ⟨v344, h345, hf⟩ := kBind hf
    refine kgoR (krunV (wc := (wX3 cI a0 a1 a2 a3 a4 a5 a6 a7 a8 a9 a10 a11 R R2 HR HS HN TB LN PS TC TW TG CM)) (As := []) (rest := []) (ci := 3) hx hb hml hown hts hK (kX3_digest l D cI fu a0 a1 a2 a3 a4 a5 a6 a7 a8 a9 a10 a11 R R2 HR HS HN TB LN PS TC TW TG CM v344 h345) gL_law_X3_digest rfl rfl rfl hdX3_digest ⟨Nat.le_of_ble_eq_true rfl, Nat.le_of_ble_eq_true rfl⟩ hP hD rfl rfl rfl rfl hl.1 rfl (Nat.le_of_ble_eq_true rfl) dL_law_732 ⟨Nat.le_of_ble_eq_true rfl, Nat.le_of_ble_eq_true rfl⟩) hP hD hS hA [0, 1, 2, 3, 4, 5, 6, 7, 8, 9, 10, 11] rfl (fun H locs hP hS => ?_)
    refine lv_lstore (lv' := [(5, .long v344), (4, .int y4), (3, .int y3), (2, .int y2), (1, .ref a0), (0, .ref b)]) hx hb dL_law_735 hl (by decide) rfl (fun ls hl => ?_)
    refine lv_aload_n hx hb dL_law_737 rfl (lv_at hl 4 rfl) ?_
    refine lv_bipush (v := (36 : Int32)) hx hb dL_law_738 (by decide) ?_
    refine lv_iconst (v := (1 : Int32)) hx hb dL_law_740 (by decide) ?_
    refine lv_iconst (v := (0 : Int32)) hx hb dL_law_741 (by decide) ?_
    obtain ⟨v346, h347, hf⟩ := kBind hf
    refine kgoA (krunV (wc := (wX3 cI a0 a1 a2 a3 a4 a5 a6 a7 a8 a9 a10 a11 R R2 HR HS HN TB LN PS TC TW TG CM)) (As := [.int (36 : Int32), .int (1 : Int32), .int (0 : Int32)]) (rest := []) (ci := 3) hx hb hml hown hts hK (kX3_addCrane l D cI a0 a1 a2 a3 a4 a5 a6 a7 a8 a9 a10 a11 R R2 HR HS HN TB LN PS TC TW TG CM (36 : Int32) (1 : Int32) (0 : Int32) v346 h347) gL_law_X3_addCrane rfl rfl rfl hdX3_addCrane ⟨Nat.le_of_ble_eq_true rfl, Nat.le_of_ble_eq_true rfl⟩ hP hD rfl rfl rfl rfl hl.1 rfl (Nat.le_of_ble_eq_true rfl) dL_law_742 ⟨Nat.le_of_ble_eq_true rfl, Nat.le_of_ble_eq_true rfl⟩) hD hS hA (fun H locs hP hD hS => ?_)
    refine lv_bipush (v := (-102 : Int32)) hx hb dL_law_745 (by decide) ?_
    refine lv_icmp_ne (tgt := 865) hx hb dL_law_747 (by decide) (fun c348 => ?_) (fun c348 => ?_)
    · have hf := kIfF c348 hf
      refine lv_iconst (v := (0 : Int32)) hx hb dL_law_865 (by decide) ?_
      have he := Option.some.inj hf
      exact absurd he (by decide)
    · have hf := kIfT c348 hf
      refine lv_aload_n hx hb dL_law_750 rfl (lv_at hl 4 rfl) ?_
      refine lv_iconst (v := (0 : Int32)) hx hb dL_law_751 (by decide) ?_
      refine lv_bipush (v := (6 : Int32)) hx hb dL_law_752 (by decide) ?_
      refine lv_iconst (v := (0 : Int32)) hx hb dL_law_754 (by decide) ?_
      refine lv_iconst (v := (0 : Int32)) hx hb dL_law_755 (by decide) ?_
      obtain ⟨v349, h350, hf⟩ := kBind hf
      refine kgoA (krunV (wc := (wX3 cI a0 a1 a2 a3 a4 a5 a6 a7 a8 a9 a10 a11 v346.2.1 R2 v346.2.2.1 v346.2.2.2.1 v346.2.2.2.2 TB LN PS TC TW TG CM)) (As := [.int (0 : Int32), .int (6 : Int32), .int (0 : Int32), .int (0 : Int32)]) (rest := []) (ci := 3) hx hb hml hown hts hK (kX3_setArc l D cI fu a0 a1 a2 a3 a4 a5 a6 a7 a8 a9 a10 a11 v346.2.1 R2 v346.2.2.1 v346.2.2.2.1 v346.2.2.2.2 TB LN PS TC TW TG CM (0 : Int32) (6 : Int32) (0 : Int32) (0 : Int32) v349 h350) gL_law_X3_setArc rfl rfl rfl hdX3_setArc ⟨Nat.le_of_ble_eq_true rfl, Nat.le_of_ble_eq_true rfl⟩ hP hD rfl rfl rfl rfl hl.1 rfl (Nat.le_of_ble_eq_true rfl) dL_law_756 ⟨Nat.le_of_ble_eq_true rfl, Nat.le_of_ble_eq_true rfl⟩) hD hS hA (fun H locs hP hD hS => ?_)
      refine lv_bipush (v := (-101 : Int32)) hx hb dL_law_759 (by decide) ?_
      refine lv_icmp_ne (tgt := 865) hx hb dL_law_761 (by decide) (fun c351 => ?_) (fun c351 => ?_)
      · have hf := kIfF c351 hf
        refine lv_iconst (v := (0 : Int32)) hx hb dL_law_865 (by decide) ?_
        have he := Option.some.inj hf
        exact absurd he (by decide)
      · have hf := kIfT c351 hf
        refine lv_aload_n hx hb dL_law_764 rfl (lv_at hl 4 rfl) ?_
        refine lv_iconst (v := (0 : Int32)) hx hb dL_law_765 (by decide) ?_
        refine lv_iconst (v := (0 : Int32)) hx hb dL_law_766 (by decide) ?_
        refine lv_bipush (v := (36 : Int32)) hx hb dL_law_767 (by decide) ?_
        refine lv_iconst (v := (0 : Int32)) hx hb dL_law_769 (by decide) ?_
        obtain ⟨v352, h353, hf⟩ := kBind hf
        refine kgoA (krunV (wc := (wX3 cI a0 a1 a2 a3 a4 a5 a6 a7 a8 a9 a10 a11 v349.2.1 v349.2.2.1 v349.2.2.2.1 v349.2.2.2.2.1 v349.2.2.2.2.2 TB LN PS TC TW TG CM)) (As := [.int (0 : Int32), .int (0 : Int32), .int (36 : Int32), .int (0 : Int32)]) (rest := []) (ci := 3) hx hb hml hown hts hK (kX3_setArc l D cI fu a0 a1 a2 a3 a4 a5 a6 a7 a8 a9 a10 a11 v349.2.1 v349.2.2.1 v349.2.2.2.1 v349.2.2.2.2.1 v349.2.2.2.2.2 TB LN PS TC TW TG CM (0 : Int32) (0 : Int32) (36 : Int32) (0 : Int32) v352 h353) gL_law_X3_setArc rfl rfl rfl hdX3_setArc ⟨Nat.le_of_ble_eq_true rfl, Nat.le_of_ble_eq_true rfl⟩ hP hD rfl rfl rfl rfl hl.1 rfl (Nat.le_of_ble_eq_true rfl) dL_law_770 ⟨Nat.le_of_ble_eq_true rfl, Nat.le_of_ble_eq_true rfl⟩) hD hS hA (fun H locs hP hD hS => ?_)
        refine lv_bipush (v := (-102 : Int32)) hx hb dL_law_773 (by decide) ?_
        refine lv_icmp_ne (tgt := 865) hx hb dL_law_775 (by decide) (fun c354 => ?_) (fun c354 => ?_)
        · have hf := kIfF c354 hf
          refine lv_iconst (v := (0 : Int32)) hx hb dL_law_865 (by decide) ?_
          have he := Option.some.inj hf
          exact absurd he (by decide)
        · have hf := kIfT c354 hf
          refine lv_aload_n hx hb dL_law_778 rfl (lv_at hl 4 rfl) ?_
          refine lv_iconst (v := (0 : Int32)) hx hb dL_law_779 (by decide) ?_
          refine lv_iconst (v := (0 : Int32)) hx hb dL_law_780 (by decide) ?_
          refine lv_iconst (v := (2 : Int32)) hx hb dL_law_781 (by decide) ?_
          obtain ⟨v355, h356, hf⟩ := kBind hf
          refine kgoA (krunV (wc := (wX3 cI a0 a1 a2 a3 a4 a5 a6 a7 a8 a9 a10 a11 v352.2.1 v352.2.2.1 v352.2.2.2.1 v352.2.2.2.2.1 v352.2.2.2.2.2 TB LN PS TC TW TG CM)) (As := [.int (0 : Int32), .int (0 : Int32), .int (2 : Int32)]) (rest := []) (ci := 3) hx hb hml hown hts hK (kX3_slew l D cI a0 a1 a2 a3 a4 a5 a6 a7 a8 a9 a10 a11 v352.2.1 v352.2.2.1 v352.2.2.2.1 v352.2.2.2.2.1 v352.2.2.2.2.2 TB LN PS TC TW TG CM (0 : Int32) (0 : Int32) (2 : Int32) v355 h356) gL_law_X3_slew rfl rfl rfl hdX3_slew ⟨Nat.le_of_ble_eq_true rfl, Nat.le_of_ble_eq_true rfl⟩ hP hD rfl rfl rfl rfl hl.1 rfl (Nat.le_of_ble_eq_true rfl) dL_law_782 ⟨Nat.le_of_ble_eq_true rfl, Nat.le_of_ble_eq_true rfl⟩) hD hS hA (fun H locs hP hD hS => ?_)
          refine lv_bipush (v := (-102 : Int32)) hx hb dL_law_785 (by decide) ?_
          refine lv_icmp_ne (tgt := 865) hx hb dL_law_787 (by decide) (fun c357 => ?_) (fun c357 => ?_)
          · have hf := kIfF c357 hf
            refine lv_iconst (v := (0 : Int32)) hx hb dL_law_865 (by decide) ?_
            have he := Option.some.inj hf
            exact absurd he (by decide)
          · have hf := kIfT c357 hf
            refine lv_aload_n hx hb dL_law_790 rfl (lv_at hl 4 rfl) ?_
            refine lv_sipush (v := (201 : Int32)) hx hb dL_law_791 (by decide) ?_
            obtain ⟨v358, h359, hf⟩ := kBind hf
            refine kgoA (krunV (wc := (wX3 cI a0 a1 a2 a3 a4 a5 a6 a7 a8 a9 a10 a11 v355.2.1 v352.2.2.1 v355.2.2.1 v355.2.2.2.1 v355.2.2.2.2 TB LN PS TC TW TG CM)) (As := [.int (201 : Int32)]) (rest := []) (ci := 3) hx hb hml hown hts hK (kX3_tick l D cI fu a0 a1 a2 a3 a4 a5 a6 a7 a8 a9 a10 a11 v355.2.1 v352.2.2.1 v355.2.2.1 v355.2.2.2.1 v355.2.2.2.2 TB LN PS TC TW TG CM (201 : Int32) v358 h359) gL_law_X3_tick rfl rfl rfl hdX3_tick ⟨Nat.le_of_ble_eq_true rfl, Nat.le_of_ble_eq_true rfl⟩ hP hD rfl rfl rfl rfl hl.1 rfl (Nat.le_of_ble_eq_true rfl) dL_law_794 ⟨Nat.le_of_ble_eq_true rfl, Nat.le_of_ble_eq_true rfl⟩) hD hS hA (fun H locs hP hD hS => ?_)
            refine lv_bipush (v := (-102 : Int32)) hx hb dL_law_797 (by decide) ?_
            refine lv_icmp_ne (tgt := 865) hx hb dL_law_799 (by decide) (fun c360 => ?_) (fun c360 => ?_)
            · have hf := kIfF c360 hf
              refine lv_iconst (v := (0 : Int32)) hx hb dL_law_865 (by decide) ?_
              have he := Option.some.inj hf
              exact absurd he (by decide)
            · have hf := kIfT c360 hf
              refine lv_aload_n hx hb dL_law_802 rfl (lv_at hl 4 rfl) ?_
              refine lv_iconst (v := (0 : Int32)) hx hb dL_law_803 (by decide) ?_
              refine lv_bipush (v := (10 : Int32)) hx hb dL_law_804 (by decide) ?_
              obtain ⟨v361, h362, hf⟩ := kBind hf
              refine kgoA (krunV (wc := (wX3 cI a0 a1 a2 a3 a4 a5 a6 a7 a8 a9 a10 a11 v358.2.1 v352.2.2.1 v358.2.2.1 v358.2.2.2.1 v358.2.2.2.2 TB LN PS TC TW TG CM)) (As := [.int (0 : Int32), .int (10 : Int32)]) (rest := []) (ci := 3) hx hb hml hown hts hK (kX3_override l D cI fu a0 a1 a2 a3 a4 a5 a6 a7 a8 a9 a10 a11 v358.2.1 v352.2.2.1 v358.2.2.1 v358.2.2.2.1 v358.2.2.2.2 TB LN PS TC TW TG CM (0 : Int32) (10 : Int32) v361 h362) gL_law_X3_override rfl rfl rfl hdX3_override ⟨Nat.le_of_ble_eq_true rfl, Nat.le_of_ble_eq_true rfl⟩ hP hD rfl rfl rfl rfl hl.1 rfl (Nat.le_of_ble_eq_true rfl) dL_law_806 ⟨Nat.le_of_ble_eq_true rfl, Nat.le_of_ble_eq_true rfl⟩) hD hS hA (fun H locs hP hD hS => ?_)
              refine lv_bipush (v := (-102 : Int32)) hx hb dL_law_809 (by decide) ?_
              refine lv_icmp_ne (tgt := 865) hx hb dL_law_811 (by decide) (fun c363 => ?_) (fun c363 => ?_)
              · have hf := kIfF c363 hf
                refine lv_iconst (v := (0 : Int32)) hx hb dL_law_865 (by decide) ?_
                have he := Option.some.inj hf
                exact absurd he (by decide)
              · have hf := kIfT c363 hf
                refine lv_aload_n hx hb dL_law_814 rfl (lv_at hl 4 rfl) ?_
                refine lv_iconst (v := (0 : Int32)) hx hb dL_law_815 (by decide) ?_
                refine lv_bipush (v := (10 : Int32)) hx hb dL_law_816 (by decide) ?_
                obtain ⟨v364, h365, hf⟩ := kBind hf
                refine kgoR (krunV (wc := (wX3 cI a0 a1 a2 a3 a4 a5 a6 a7 a8 a9 a10 a11 v361.2.1 v352.2.2.1 v361.2.2.1 v361.2.2.2.1 v361.2.2.2.2 TB LN PS TC TW TG CM)) (As := [.int (0 : Int32), .int (10 : Int32)]) (rest := []) (ci := 3) hx hb hml hown hts hK (kX3_crane l D cI fu a0 a1 a2 a3 a4 a5 a6 a7 a8 a9 a10 a11 v361.2.1 v352.2.2.1 v361.2.2.1 v361.2.2.2.1 v361.2.2.2.2 TB LN PS TC TW TG CM (0 : Int32) (10 : Int32) v364 h365) gL_law_X3_crane rfl rfl rfl hdX3_crane ⟨Nat.le_of_ble_eq_true rfl, Nat.le_of_ble_eq_true rfl⟩ hP hD rfl rfl rfl rfl hl.1 rfl (Nat.le_of_ble_eq_true rfl) dL_law_818 ⟨Nat.le_of_ble_eq_true rfl, Nat.le_of_ble_eq_true rfl⟩) hP hD hS hA [0, 1, 2, 3, 4, 5, 6, 7, 8, 9, 10, 11] rfl (fun H locs hP hS => ?_)
                refine lv_bipush (v := (-102 : Int32)) hx hb dL_law_821 (by decide) ?_
                refine lv_icmp_ne (tgt := 865) hx hb dL_law_823 (by decide) (fun c366 => ?_) (fun c366 => ?_)
                · have hf := kIfF c366 hf
                  refine lv_iconst (v := (0 : Int32)) hx hb dL_law_865 (by decide) ?_
                  have he := Option.some.inj hf
                  exact absurd he (by decide)
                · have hf := kIfT c366 hf
                  refine lv_aload_n hx hb dL_law_826 rfl (lv_at hl 4 rfl) ?_
                  refine lv_aload_n hx hb dL_law_827 rfl (lv_at hl 4 rfl) ?_
                  obtain ⟨v367, h368, hf⟩ := kBind hf
                  refine kgoR (krunV (wc := (wX3 cI a0 a1 a2 a3 a4 a5 a6 a7 a8 a9 a10 a11 v361.2.1 v352.2.2.1 v361.2.2.1 v361.2.2.2.1 v361.2.2.2.2 TB LN PS TC TW TG CM)) (As := []) (rest := [.ref a0]) (ci := 3) hx hb hml hown hts hK (kX3_notes l D cI a0 a1 a2 a3 a4 a5 a6 a7 a8 a9 a10 a11 v361.2.1 v352.2.2.1 v361.2.2.1 v361.2.2.2.1 v361.2.2.2.2 TB LN PS TC TW TG CM v367 h368) gL_law_X3_notes rfl rfl rfl hdX3_notes ⟨Nat.le_of_ble_eq_true rfl, Nat.le_of_ble_eq_true rfl⟩ hP hD rfl rfl rfl rfl hl.1 rfl (Nat.le_of_ble_eq_true rfl) dL_law_828 ⟨Nat.le_of_ble_eq_true rfl, Nat.le_of_ble_eq_true rfl⟩) hP hD hS hA [0, 1, 2, 3, 4, 5, 6, 7, 8, 9, 10, 11] rfl (fun H locs hP hS => ?_)
                  refine lv_iconst (v := (0 : Int32)) hx hb dL_law_831 (by decide) ?_
                  obtain ⟨v369, h370, hf⟩ := kBind hf
                  refine kgoR (krunV (wc := (wX3 cI a0 a1 a2 a3 a4 a5 a6 a7 a8 a9 a10 a11 v361.2.1 v352.2.2.1 v361.2.2.1 v361.2.2.2.1 v361.2.2.2.2 TB LN PS TC TW TG CM)) (As := [.int v367, .int (0 : Int32)]) (rest := []) (ci := 3) hx hb hml hown hts hK (kX3_note l D cI a0 a1 a2 a3 a4 a5 a6 a7 a8 a9 a10 a11 v361.2.1 v352.2.2.1 v361.2.2.1 v361.2.2.2.1 v361.2.2.2.2 TB LN PS TC TW TG CM v367 (0 : Int32) v369 h370) gL_law_X3_note rfl rfl rfl hdX3_note ⟨Nat.le_of_ble_eq_true rfl, Nat.le_of_ble_eq_true rfl⟩ hP hD rfl rfl rfl rfl hl.1 rfl (Nat.le_of_ble_eq_true rfl) dL_law_832 ⟨Nat.le_of_ble_eq_true rfl, Nat.le_of_ble_eq_true rfl⟩) hP hD hS hA [0, 1, 2, 3, 4, 5, 6, 7, 8, 9, 10, 11] rfl (fun H locs hP hS => ?_)
                  refine lv_bipush (v := (-101 : Int32)) hx hb dL_law_835 (by decide) ?_
                  refine lv_icmp_ne (tgt := 865) hx hb dL_law_837 (by decide) (fun c371 => ?_) (fun c371 => ?_)
                  · have hf := kIfF c371 hf
                    refine lv_iconst (v := (0 : Int32)) hx hb dL_law_865 (by decide) ?_
                    have he := Option.some.inj hf
                    exact absurd he (by decide)
                  · have hf := kIfT c371 hf
                    refine lv_aload_n hx hb dL_law_840 rfl (lv_at hl 4 rfl) ?_
                    refine lv_iconst (v := (0 : Int32)) hx hb dL_law_841 (by decide) ?_
                    refine lv_iconst (v := (0 : Int32)) hx hb dL_law_842 (by decide) ?_
                    obtain ⟨v372, h373, hf⟩ := kBind hf
                    refine kgoA (krunV (wc := (wX3 cI a0 a1 a2 a3 a4 a5 a6 a7 a8 a9 a10 a11 v361.2.1 v352.2.2.1 v361.2.2.1 v361.2.2.2.1 v361.2.2.2.2 TB LN PS TC TW TG CM)) (As := [.int (0 : Int32), .int (0 : Int32)]) (rest := []) (ci := 3) hx hb hml hown hts hK (kX3_waits l D cI fu a0 a1 a2 a3 a4 a5 a6 a7 a8 a9 a10 a11 v361.2.1 v352.2.2.1 v361.2.2.1 v361.2.2.2.1 v361.2.2.2.2 TB LN PS TC TW TG CM (0 : Int32) (0 : Int32) v372 h373) gL_law_X3_waits rfl rfl rfl hdX3_waits ⟨Nat.le_of_ble_eq_true rfl, Nat.le_of_ble_eq_true rfl⟩ hP hD rfl rfl rfl rfl hl.1 rfl (Nat.le_of_ble_eq_true rfl) dL_law_843 ⟨Nat.le_of_ble_eq_true rfl, Nat.le_of_ble_eq_true rfl⟩) hD hS hA (fun H locs hP hD hS => ?_)
                    refine lv_bipush (v := (-102 : Int32)) hx hb dL_law_846 (by decide) ?_
                    refine lv_icmp_ne (tgt := 865) hx hb dL_law_848 (by decide) (fun c374 => ?_) (fun c374 => ?_)
                    · have hf := kIfF c374 hf
                      refine lv_iconst (v := (0 : Int32)) hx hb dL_law_865 (by decide) ?_
                      have he := Option.some.inj hf
                      exact absurd he (by decide)
                    · have hf := kIfT c374 hf
                      refine lv_aload_n hx hb dL_law_851 rfl (lv_at hl 4 rfl) ?_
                      obtain ⟨v375, h376, hf⟩ := kBind hf
                      refine kgoR (krunV (wc := (wX3 cI a0 a1 a2 a3 a4 a5 a6 a7 a8 a9 a10 a11 v361.2.1 v372.2 v361.2.2.1 v361.2.2.2.1 v361.2.2.2.2 TB LN PS TC TW TG CM)) (As := []) (rest := []) (ci := 3) hx hb hml hown hts hK (kX3_digest l D cI fu a0 a1 a2 a3 a4 a5 a6 a7 a8 a9 a10 a11 v361.2.1 v372.2 v361.2.2.1 v361.2.2.2.1 v361.2.2.2.2 TB LN PS TC TW TG CM v375 h376) gL_law_X3_digest rfl rfl rfl hdX3_digest ⟨Nat.le_of_ble_eq_true rfl, Nat.le_of_ble_eq_true rfl⟩ hP hD rfl rfl rfl rfl hl.1 rfl (Nat.le_of_ble_eq_true rfl) dL_law_852 ⟨Nat.le_of_ble_eq_true rfl, Nat.le_of_ble_eq_true rfl⟩) hP hD hS hA [0, 1, 2, 3, 4, 5, 6, 7, 8, 9, 10, 11] rfl (fun H locs hP hS => ?_)
                      refine lv_lload hx hb dL_law_855 (lv_at hl 0 rfl) ?_
                      refine W.lcmp hx hb dL_law_857 ?_
                      refine lv_if_ne (tgt := 865) hx hb dL_law_858 (by decide) (fun c377 => ?_) (fun c377 => ?_)
                      · have hf := kIfF c377 hf
                        refine lv_iconst (v := (0 : Int32)) hx hb dL_law_865 (by decide) ?_
                        have he := Option.some.inj hf
                        exact absurd he (by decide)
                      · have hf := kIfT c377 hf
                        refine lv_iconst (v := (1 : Int32)) hx hb dL_law_861 (by decide) ?_
                        refine lv_goto (tgt := 866) hx hb dL_law_862 (by decide) ?_
                        have he := Option.some.inj hf
                        exact va_forget (fun q hq => hAb _ (hS.2.2 q hq)) (lw_ret hx hb hr hlk dL_law_866)
  refine kcut (D := D) (A := A) (fun K => ∀ (R : (Nat → Int32)) (R2 : (Nat → Int32)) (HR : (Nat → Int32)) (HS : Int32) (HN : Int32) (PS : Int32) (TC : (Nat → Int32)) (TW : (Nat → Int32)) (TG : (Nat → Int32)) (CM : Int32) (y5 : Int32) (y4 : Int32) (y3 : Int32) (y2 : Int32), fL_law_J668 fu R R2 HR HS HN y4 y3 = some true → K (wX3 cI a0 a1 a2 a3 a4 a5 a6 a7 a8 a9 a10 a11 R R2 HR HS HN TB LN PS TC TW TG CM) 10 [(5, .int y5), (4, .int y4), (3, .int y3), (2, .int y2), (1, .ref a0), (0, .ref b)] 668) ?_ (fun hJ668 => ?_)
  · intro R R2 HR HS HN PS TC TW TG CM y5 y4 y3 y2 hf H locs ls hP hD hS hl
    unfold fL_law_J668 at hf
    have hP : va_P D vwCl (wX3 cI a0 a1 a2 a3 a4 a5 a6 a7 a8 a9 a10 a11 R R2 HR HS HN TB LN PS TC TW TG CM) H := hP
    have hD : va_D A (wX3 cI a0 a1 a2 a3 a4 a5 a6 a7 a8 a9 a10 a11 R R2 HR HS HN TB LN PS TC TW TG CM) := hD
    have hl : lv_has ls 10 [(5, .int y5), (4, .int y4), (3, .int y3), (2, .int y2), (1, .ref a0), (0, .ref b)] := hl
    refine lv_aload_n hx hb dL_law_668 rfl (lv_at hl 4 rfl) ?_
    refine lv_bipush (v := (18 : Int32)) hx hb dL_law_669 (by decide) ?_
    obtain ⟨v378, h379, hf⟩ := kBind hf
    refine kgoA (krunV (wc := (wX3 cI a0 a1 a2 a3 a4 a5 a6 a7 a8 a9 a10 a11 R R2 HR HS HN TB LN PS TC TW TG CM)) (As := [.int (18 : Int32)]) (rest := []) (ci := 3) hx hb hml hown hts hK (kX3_tick l D cI fu a0 a1 a2 a3 a4 a5 a6 a7 a8 a9 a10 a11 R R2 HR HS HN TB LN PS TC TW TG CM (18 : Int32) v378 h379) gL_law_X3_tick rfl rfl rfl hdX3_tick ⟨Nat.le_of_ble_eq_true rfl, Nat.le_of_ble_eq_true rfl⟩ hP hD rfl rfl rfl rfl hl.1 rfl (Nat.le_of_ble_eq_true rfl) dL_law_671 ⟨Nat.le_of_ble_eq_true rfl, Nat.le_of_ble_eq_true rfl⟩) hD hS hA (fun H locs hP hD hS => ?_)
    refine lv_pop hx hb dL_law_674 rfl ?_
    refine lv_iconst (v := (0 : Int32)) hx hb dL_law_675 (by decide) ?_
    refine lv_istore (lv' := [(5, .int (0 : Int32)), (4, .int y4), (3, .int y3), (2, .int y2), (1, .ref a0), (0, .ref b)]) hx hb dL_law_676 hl (by decide) rfl (fun ls hl => ?_)
    have hl : lv_has ls 10 [(5, .int (0 : Int32)), (4, .int y4), (3, .int y3), (2, .int y2), (1, .ref a0), (0, .ref b)] := hl
    refine klp hf (fun t678 : (Nat → Int32) × (Nat → Int32) × (Nat → Int32) × Int32 × Int32 × Int32 => (wX3 cI a0 a1 a2 a3 a4 a5 a6 a7 a8 a9 a10 a11 t678.1 t678.2.1 t678.2.2.1 t678.2.2.2.1 t678.2.2.2.2.1 TB LN PS TC TW TG CM)) 10 (fun t678 : (Nat → Int32) × (Nat → Int32) × (Nat → Int32) × Int32 × Int32 × Int32 => [(5, .int t678.2.2.2.2.2), (4, .int y4), (3, .int y3), (2, .int y2), (1, .ref a0), (0, .ref b)]) ?_ hP hD hS hl
    intro t678 x678_ hf hI1 hO1 H locs ls hP hD hS hl
    unfold fL_law_L678 at hf
    have hP : va_P D vwCl (wX3 cI a0 a1 a2 a3 a4 a5 a6 a7 a8 a9 a10 a11 t678.1 t678.2.1 t678.2.2.1 t678.2.2.2.1 t678.2.2.2.2.1 TB LN PS TC TW TG CM) H := hP
    have hD : va_D A (wX3 cI a0 a1 a2 a3 a4 a5 a6 a7 a8 a9 a10 a11 t678.1 t678.2.1 t678.2.2.1 t678.2.2.2.1 t678.2.2.2.2.1 TB LN PS TC TW TG CM) := hD
    have hl : lv_has ls 10 [(5, .int t678.2.2.2.2.2), (4, .int y4), (3, .int y3), (2, .int y2), (1, .ref a0), (0, .ref b)] := hl
    refine lv_iload hx hb dL_law_678 (lv_at hl 0 rfl) ?_
    refine lv_iload_n hx hb dL_law_680 rfl (lv_at hl 2 rfl) ?_
    refine lv_icmp_ge (tgt := 731) hx hb dL_law_681 (by decide) (fun c380 => ?_) (fun c380 => ?_)
    · have hf := kIfT c380 hf
      obtain ⟨r_, hf, he⟩ := kBind hf
      have he := (Option.some.inj he).symm
      have he := hO1 _ he
      rw [he] at hf
      exact hJ731 t678.1 t678.2.1 t678.2.2.1 t678.2.2.2.1 t678.2.2.2.2.1 PS TC TW TG CM t678.2.2.2.2.2 y4 y3 y2 hf H locs ls hP hD hS (lv_sub hl [0, 1, 2, 3, 4, 5] rfl)
    · have hf := kIfF c380 hf
      refine lv_aload_n hx hb dL_law_684 rfl (lv_at hl 4 rfl) ?_
      refine lv_iload hx hb dL_law_685 (lv_at hl 0 rfl) ?_
      refine lv_iconst (v := (0 : Int32)) hx hb dL_law_687 (by decide) ?_
      obtain ⟨v381, h382, hf⟩ := kBind hf
      refine kgoR (krunV (wc := (wX3 cI a0 a1 a2 a3 a4 a5 a6 a7 a8 a9 a10 a11 t678.1 t678.2.1 t678.2.2.1 t678.2.2.2.1 t678.2.2.2.2.1 TB LN PS TC TW TG CM)) (As := [.int t678.2.2.2.2.2, .int (0 : Int32)]) (rest := []) (ci := 3) hx hb hml hown hts hK (kX3_crane l D cI fu a0 a1 a2 a3 a4 a5 a6 a7 a8 a9 a10 a11 t678.1 t678.2.1 t678.2.2.1 t678.2.2.2.1 t678.2.2.2.2.1 TB LN PS TC TW TG CM t678.2.2.2.2.2 (0 : Int32) v381 h382) gL_law_X3_crane rfl rfl rfl hdX3_crane ⟨Nat.le_of_ble_eq_true rfl, Nat.le_of_ble_eq_true rfl⟩ hP hD rfl rfl rfl rfl hl.1 rfl (Nat.le_of_ble_eq_true rfl) dL_law_688 ⟨Nat.le_of_ble_eq_true rfl, Nat.le_of_ble_eq_true rfl⟩) hP hD hS hA [0, 1, 2, 3, 4, 5, 6, 7, 8, 9, 10, 11] rfl (fun H locs hP hS => ?_)
      refine lv_iload hx hb dL_law_691 (lv_at hl 1 rfl) ?_
      refine lv_icmp_ne (tgt := 723) hx hb dL_law_693 (by decide) (fun c383 => ?_) (fun c383 => ?_)
      · have hf := kIfF c383 hf
        refine lv_iconst (v := (0 : Int32)) hx hb dL_law_723 (by decide) ?_
        have he := Option.some.inj hf
        have he := hO1 _ he.symm
        exact absurd he (by decide)
      · have hf := kIfT c383 hf
        refine lv_aload_n hx hb dL_law_696 rfl (lv_at hl 4 rfl) ?_
        refine lv_iload hx hb dL_law_697 (lv_at hl 0 rfl) ?_
        refine lv_iconst (v := (0 : Int32)) hx hb dL_law_699 (by decide) ?_
        refine lv_iconst (v := (0 : Int32)) hx hb dL_law_700 (by decide) ?_
        obtain ⟨v384, h385, hf⟩ := kBind hf
        refine kgoA (krunV (wc := (wX3 cI a0 a1 a2 a3 a4 a5 a6 a7 a8 a9 a10 a11 t678.1 t678.2.1 t678.2.2.1 t678.2.2.2.1 t678.2.2.2.2.1 TB LN PS TC TW TG CM)) (As := [.int t678.2.2.2.2.2, .int (0 : Int32), .int (0 : Int32)]) (rest := []) (ci := 3) hx hb hml hown hts hK (kX3_slew l D cI a0 a1 a2 a3 a4 a5 a6 a7 a8 a9 a10 a11 t678.1 t678.2.1 t678.2.2.1 t678.2.2.2.1 t678.2.2.2.2.1 TB LN PS TC TW TG CM t678.2.2.2.2.2 (0 : Int32) (0 : Int32) v384 h385) gL_law_X3_slew rfl rfl rfl hdX3_slew ⟨Nat.le_of_ble_eq_true rfl, Nat.le_of_ble_eq_true rfl⟩ hP hD rfl rfl rfl rfl hl.1 rfl (Nat.le_of_ble_eq_true rfl) dL_law_701 ⟨Nat.le_of_ble_eq_true rfl, Nat.le_of_ble_eq_true rfl⟩) hD hS hA (fun H locs hP hD hS => ?_)
        refine lv_bipush (v := (-103 : Int32)) hx hb dL_law_704 (by decide) ?_
        refine lv_icmp_ne (tgt := 723) hx hb dL_law_706 (by decide) (fun c386 => ?_) (fun c386 => ?_)
        · have hf := kIfF c386 hf
          refine lv_iconst (v := (0 : Int32)) hx hb dL_law_723 (by decide) ?_
          have he := Option.some.inj hf
          have he := hO1 _ he.symm
          exact absurd he (by decide)
        · have hf := kIfT c386 hf
          refine lv_aload_n hx hb dL_law_709 rfl (lv_at hl 4 rfl) ?_
          refine lv_iload hx hb dL_law_710 (lv_at hl 0 rfl) ?_
          refine lv_iconst (v := (0 : Int32)) hx hb dL_law_712 (by decide) ?_
          refine lv_iconst (v := (0 : Int32)) hx hb dL_law_713 (by decide) ?_
          refine lv_iconst (v := (0 : Int32)) hx hb dL_law_714 (by decide) ?_
          obtain ⟨v387, h388, hf⟩ := kBind hf
          refine kgoA (krunV (wc := (wX3 cI a0 a1 a2 a3 a4 a5 a6 a7 a8 a9 a10 a11 v384.2.1 t678.2.1 v384.2.2.1 v384.2.2.2.1 v384.2.2.2.2 TB LN PS TC TW TG CM)) (As := [.int t678.2.2.2.2.2, .int (0 : Int32), .int (0 : Int32), .int (0 : Int32)]) (rest := []) (ci := 3) hx hb hml hown hts hK (kX3_setArc l D cI fu a0 a1 a2 a3 a4 a5 a6 a7 a8 a9 a10 a11 v384.2.1 t678.2.1 v384.2.2.1 v384.2.2.2.1 v384.2.2.2.2 TB LN PS TC TW TG CM t678.2.2.2.2.2 (0 : Int32) (0 : Int32) (0 : Int32) v387 h388) gL_law_X3_setArc rfl rfl rfl hdX3_setArc ⟨Nat.le_of_ble_eq_true rfl, Nat.le_of_ble_eq_true rfl⟩ hP hD rfl rfl rfl rfl hl.1 rfl (Nat.le_of_ble_eq_true rfl) dL_law_715 ⟨Nat.le_of_ble_eq_true rfl, Nat.le_of_ble_eq_true rfl⟩) hD hS hA (fun H locs hP hD hS => ?_)
          refine lv_bipush (v := (-103 : Int32)) hx hb dL_law_718 (by decide) ?_
          refine lv_icmp_eq (tgt := 725) hx hb dL_law_720 (by decide) (fun c389 => ?_) (fun c389 => ?_)
          · have hf := kIfT c389 hf
            refine lv_iinc (v := t678.2.2.2.2.2 + (1 : Int32)) (lv' := [(5, .int (t678.2.2.2.2.2 + (1 : Int32))), (4, .int y4), (3, .int y3), (2, .int y2), (1, .ref a0), (0, .ref b)]) hx hb dL_law_725 hl (k := 0) rfl rfl (by decide) rfl (fun ls hl => ?_)
            refine lv_goto (tgt := 678) hx hb dL_law_728 (by decide) ?_
            obtain ⟨z390, hz390⟩ : ∃ z : Int32, z = t678.2.2.2.2.2 + (1 : Int32) := ⟨_, rfl⟩
            rw [← hz390] at hf
            have he := (Option.some.inj hf).symm
            have hl : lv_has ls 10 [(5, .int z390), (4, .int y4), (3, .int y3), (2, .int y2), (1, .ref a0), (0, .ref b)] := by rw [hz390]; exact lv_sub hl [0, 1, 2, 3, 4, 5] rfl
            exact hI1 _ he H locs ls hP hD hS hl
          · have hf := kIfF c389 hf
            refine lv_iconst (v := (0 : Int32)) hx hb dL_law_723 (by decide) ?_
            have he := Option.some.inj hf
            have he := hO1 _ he.symm
            exact absurd he (by decide)
  refine kcut (D := D) (A := A) (fun K => ∀ (R : (Nat → Int32)) (R2 : (Nat → Int32)) (HR : (Nat → Int32)) (HS : Int32) (HN : Int32) (PS : Int32) (TC : (Nat → Int32)) (TW : (Nat → Int32)) (TG : (Nat → Int32)) (CM : Int32) (y4 : Int32) (y3 : Int32) (y2 : Int32), fL_law_J591 fu R R2 HR HS HN y3 y2 = some true → K (wX3 cI a0 a1 a2 a3 a4 a5 a6 a7 a8 a9 a10 a11 R R2 HR HS HN TB LN PS TC TW TG CM) 10 [(4, .int y4), (3, .int y3), (2, .int y2), (1, .ref a0), (0, .ref b)] 591) ?_ (fun hJ591 => ?_)
  · intro R R2 HR HS HN PS TC TW TG CM y4 y3 y2 hf H locs ls hP hD hS hl
    unfold fL_law_J591 at hf
    have hP : va_P D vwCl (wX3 cI a0 a1 a2 a3 a4 a5 a6 a7 a8 a9 a10 a11 R R2 HR HS HN TB LN PS TC TW TG CM) H := hP
    have hD : va_D A (wX3 cI a0 a1 a2 a3 a4 a5 a6 a7 a8 a9 a10 a11 R R2 HR HS HN TB LN PS TC TW TG CM) := hD
    have hl : lv_has ls 10 [(4, .int y4), (3, .int y3), (2, .int y2), (1, .ref a0), (0, .ref b)] := hl
    refine lv_iload_n hx hb dL_law_591 rfl (lv_at hl 2 rfl) ?_
    refine lv_iconst (v := (4 : Int32)) hx hb dL_law_592 (by decide) ?_
    refine kishr hx hb dL_law_593 ?_
    refine lv_bipush (v := (36 : Int32)) hx hb dL_law_594 (by decide) ?_
    obtain ⟨v391, h392, hf⟩ := kBind hf
    refine kgoR (krunS (wc := ([] : va_W)) (As := [.int (jshr y2 (4 : Int32)), .int (36 : Int32)]) (rest := []) hx hb hml hown hts hK (kL_low l D cI (jshr y2 (4 : Int32)) (36 : Int32) v391 h392) gL_law_L_low rfl rfl rfl hdL_low ⟨Nat.le_of_ble_eq_true rfl, Nat.le_of_ble_eq_true rfl⟩ k_P0 (k_D0 A) rfl hl.1 rfl (Nat.le_of_ble_eq_true rfl) dL_law_596 ⟨Nat.le_of_ble_eq_true rfl, Nat.le_of_ble_eq_true rfl⟩) hP hD hS hA [] rfl (fun H locs hP hS => ?_)
    refine lv_istore (lv' := [(4, .int v391), (3, .int y3), (2, .int y2), (1, .ref a0), (0, .ref b)]) hx hb dL_law_599 hl (by decide) rfl (fun ls hl => ?_)
    refine lv_aload_n hx hb dL_law_601 rfl (lv_at hl 3 rfl) ?_
    refine lv_iload hx hb dL_law_602 (lv_at hl 0 rfl) ?_
    obtain ⟨v393, h394, hf⟩ := kBind hf
    refine kgoA (krunV (wc := (wX3 cI a0 a1 a2 a3 a4 a5 a6 a7 a8 a9 a10 a11 R R2 HR HS HN TB LN PS TC TW TG CM)) (As := [.int v391]) (rest := []) (ci := 3) hx hb hml hown hts hK (kX3_setWind l D cI a0 a1 a2 a3 a4 a5 a6 a7 a8 a9 a10 a11 R R2 HR HS HN TB LN PS TC TW TG CM v391 v393 h394) gL_law_X3_setWind rfl rfl rfl hdX3_setWind ⟨Nat.le_of_ble_eq_true rfl, Nat.le_of_ble_eq_true rfl⟩ hP hD rfl rfl rfl rfl hl.1 rfl (Nat.le_of_ble_eq_true rfl) dL_law_604 ⟨Nat.le_of_ble_eq_true rfl, Nat.le_of_ble_eq_true rfl⟩) hD hS hA (fun H locs hP hD hS => ?_)
    refine lv_pop hx hb dL_law_607 rfl ?_
    refine lv_aload_n hx hb dL_law_608 rfl (lv_at hl 3 rfl) ?_
    refine lv_sipush (v := (175 : Int32)) hx hb dL_law_609 (by decide) ?_
    obtain ⟨v395, h396, hf⟩ := kBind hf
    refine kgoA (krunV (wc := (wX3 cI a0 a1 a2 a3 a4 a5 a6 a7 a8 a9 a10 a11 v393.2.1 R2 v393.2.2.1 v393.2.2.2.1 v393.2.2.2.2 TB LN PS TC TW TG CM)) (As := [.int (175 : Int32)]) (rest := []) (ci := 3) hx hb hml hown hts hK (kX3_tick l D cI fu a0 a1 a2 a3 a4 a5 a6 a7 a8 a9 a10 a11 v393.2.1 R2 v393.2.2.1 v393.2.2.2.1 v393.2.2.2.2 TB LN PS TC TW TG CM (175 : Int32) v395 h396) gL_law_X3_tick rfl rfl rfl hdX3_tick ⟨Nat.le_of_ble_eq_true rfl, Nat.le_of_ble_eq_true rfl⟩ hP hD rfl rfl rfl rfl hl.1 rfl (Nat.le_of_ble_eq_true rfl) dL_law_612 ⟨Nat.le_of_ble_eq_true rfl, Nat.le_of_ble_eq_true rfl⟩) hD hS hA (fun H locs hP hD hS => ?_)
    refine lv_sipush (v := (175 : Int32)) hx hb dL_law_615 (by decide) ?_
    refine lv_icmp_lt (tgt := 628) hx hb dL_law_618 (by decide) (fun c397 => ?_) (fun c397 => ?_)
    · have hf := kIfT c397 hf
      refine lv_iconst (v := (0 : Int32)) hx hb dL_law_628 (by decide) ?_
      have he := Option.some.inj hf
      exact absurd he (by decide)
    · have hf := kIfF c397 hf
      refine lv_aload_n hx hb dL_law_621 rfl (lv_at hl 3 rfl) ?_
      obtain ⟨v398, h399, hf⟩ := kBind hf
      refine kgoA (krunV (wc := (wX3 cI a0 a1 a2 a3 a4 a5 a6 a7 a8 a9 a10 a11 v395.2.1 R2 v395.2.2.1 v395.2.2.2.1 v395.2.2.2.2 TB LN PS TC TW TG CM)) (As := []) (rest := []) (ci := 3) hx hb hml hown hts hK (kX3_allDone l D cI fu a0 a1 a2 a3 a4 a5 a6 a7 a8 a9 a10 a11 v395.2.1 R2 v395.2.2.1 v395.2.2.2.1 v395.2.2.2.2 TB LN PS TC TW TG CM v398 h399) gL_law_X3_allDone rfl rfl rfl hdX3_allDone ⟨Nat.le_of_ble_eq_true rfl, Nat.le_of_ble_eq_true rfl⟩ hP hD rfl rfl rfl rfl hl.1 rfl (Nat.le_of_ble_eq_true rfl) dL_law_622 ⟨Nat.le_of_ble_eq_true rfl, Nat.le_of_ble_eq_true rfl⟩) hD hS hA (fun H locs hP hD hS => ?_)
      refine lv_if_eq (tgt := 630) hx hb dL_law_625 (by decide) (fun c400 => ?_) (fun c400 => ?_)
      · have hf := kIfT c400 hf
        refine lv_iconst (v := (0 : Int32)) hx hb dL_law_630 (by decide) ?_
        refine lv_istore (lv' := [(5, .int (0 : Int32)), (4, .int v391), (3, .int y3), (2, .int y2), (1, .ref a0), (0, .ref b)]) hx hb dL_law_631 hl (by decide) rfl (fun ls hl => ?_)
        have hl : lv_has ls 10 [(5, .int (0 : Int32)), (4, .int v391), (3, .int y3), (2, .int y2), (1, .ref a0), (0, .ref b)] := hl
        refine klp hf (fun t633 : (Nat → Int32) × (Nat → Int32) × Int32 × Int32 × Int32 => (wX3 cI a0 a1 a2 a3 a4 a5 a6 a7 a8 a9 a10 a11 t633.1 v398.2 t633.2.1 t633.2.2.1 t633.2.2.2.1 TB LN PS TC TW TG CM)) 10 (fun t633 : (Nat → Int32) × (Nat → Int32) × Int32 × Int32 × Int32 => [(5, .int t633.2.2.2.2), (4, .int v391), (3, .int y3), (2, .int y2), (1, .ref a0), (0, .ref b)]) ?_ hP hD hS hl
        intro t633 x633_ hf hI1 hO1 H locs ls hP hD hS hl
        unfold fL_law_L633 at hf
        have hP : va_P D vwCl (wX3 cI a0 a1 a2 a3 a4 a5 a6 a7 a8 a9 a10 a11 t633.1 v398.2 t633.2.1 t633.2.2.1 t633.2.2.2.1 TB LN PS TC TW TG CM) H := hP
        have hD : va_D A (wX3 cI a0 a1 a2 a3 a4 a5 a6 a7 a8 a9 a10 a11 t633.1 v398.2 t633.2.1 t633.2.2.1 t633.2.2.2.1 TB LN PS TC TW TG CM) := hD
        have hl : lv_has ls 10 [(5, .int t633.2.2.2.2), (4, .int v391), (3, .int y3), (2, .int y2), (1, .ref a0), (0, .ref b)] := hl
        refine lv_iload hx hb dL_law_633 (lv_at hl 0 rfl) ?_
        refine lv_iload_n hx hb dL_law_635 rfl (lv_at hl 2 rfl) ?_
        refine lv_icmp_ge (tgt := 668) hx hb dL_law_636 (by decide) (fun c401 => ?_) (fun c401 => ?_)
        · have hf := kIfT c401 hf
          obtain ⟨r_, hf, he⟩ := kBind hf
          have he := (Option.some.inj he).symm
          have he := hO1 _ he
          rw [he] at hf
          exact hJ668 t633.1 v398.2 t633.2.1 t633.2.2.1 t633.2.2.2.1 PS TC TW TG CM t633.2.2.2.2 v391 y3 y2 hf H locs ls hP hD hS (lv_sub hl [0, 1, 2, 3, 4, 5] rfl)
        · have hf := kIfF c401 hf
          refine lv_aload_n hx hb dL_law_639 rfl (lv_at hl 4 rfl) ?_
          refine lv_iload hx hb dL_law_640 (lv_at hl 0 rfl) ?_
          refine lv_iconst (v := (1 : Int32)) hx hb dL_law_642 (by decide) ?_
          obtain ⟨v402, h403, hf⟩ := kBind hf
          refine kgoA (krunV (wc := (wX3 cI a0 a1 a2 a3 a4 a5 a6 a7 a8 a9 a10 a11 t633.1 v398.2 t633.2.1 t633.2.2.1 t633.2.2.2.1 TB LN PS TC TW TG CM)) (As := [.int t633.2.2.2.2, .int (bI true)]) (rest := []) (ci := 3) hx hb hml hown hts hK (kX3_leave l D cI fu a0 a1 a2 a3 a4 a5 a6 a7 a8 a9 a10 a11 t633.1 v398.2 t633.2.1 t633.2.2.1 t633.2.2.2.1 TB LN PS TC TW TG CM t633.2.2.2.2 true v402 h403) gL_law_X3_leave rfl rfl rfl hdX3_leave ⟨Nat.le_of_ble_eq_true rfl, Nat.le_of_ble_eq_true rfl⟩ hP hD rfl rfl rfl rfl hl.1 rfl (Nat.le_of_ble_eq_true rfl) dL_law_643 ⟨Nat.le_of_ble_eq_true rfl, Nat.le_of_ble_eq_true rfl⟩) hD hS hA (fun H locs hP hD hS => ?_)
          refine lv_if_lt (tgt := 660) hx hb dL_law_646 (by decide) (fun c404 => ?_) (fun c404 => ?_)
          · have hf := kIfT c404 hf
            refine lv_iconst (v := (0 : Int32)) hx hb dL_law_660 (by decide) ?_
            have he := Option.some.inj hf
            have he := hO1 _ he.symm
            exact absurd he (by decide)
          · have hf := kIfF c404 hf
            refine lv_aload_n hx hb dL_law_649 rfl (lv_at hl 4 rfl) ?_
            refine lv_iload hx hb dL_law_650 (lv_at hl 0 rfl) ?_
            refine lv_iconst (v := (1 : Int32)) hx hb dL_law_652 (by decide) ?_
            obtain ⟨v405, h406, hf⟩ := kBind hf
            refine kgoA (krunV (wc := (wX3 cI a0 a1 a2 a3 a4 a5 a6 a7 a8 a9 a10 a11 v402.2.1 v398.2 v402.2.2.1 v402.2.2.2.1 v402.2.2.2.2 TB LN PS TC TW TG CM)) (As := [.int t633.2.2.2.2, .int (bI true)]) (rest := []) (ci := 3) hx hb hml hown hts hK (kX3_leave l D cI fu a0 a1 a2 a3 a4 a5 a6 a7 a8 a9 a10 a11 v402.2.1 v398.2 v402.2.2.1 v402.2.2.2.1 v402.2.2.2.2 TB LN PS TC TW TG CM t633.2.2.2.2 true v405 h406) gL_law_X3_leave rfl rfl rfl hdX3_leave ⟨Nat.le_of_ble_eq_true rfl, Nat.le_of_ble_eq_true rfl⟩ hP hD rfl rfl rfl rfl hl.1 rfl (Nat.le_of_ble_eq_true rfl) dL_law_653 ⟨Nat.le_of_ble_eq_true rfl, Nat.le_of_ble_eq_true rfl⟩) hD hS hA (fun H locs hP hD hS => ?_)
            refine lv_iconst (v := (1 : Int32)) hx hb dL_law_656 (by decide) ?_
            refine lv_icmp_eq (tgt := 662) hx hb dL_law_657 (by decide) (fun c407 => ?_) (fun c407 => ?_)
            · have hf := kIfT c407 hf
              refine lv_iinc (v := t633.2.2.2.2 + (1 : Int32)) (lv' := [(5, .int (t633.2.2.2.2 + (1 : Int32))), (4, .int v391), (3, .int y3), (2, .int y2), (1, .ref a0), (0, .ref b)]) hx hb dL_law_662 hl (k := 0) rfl rfl (by decide) rfl (fun ls hl => ?_)
              refine lv_goto (tgt := 633) hx hb dL_law_665 (by decide) ?_
              obtain ⟨z408, hz408⟩ : ∃ z : Int32, z = t633.2.2.2.2 + (1 : Int32) := ⟨_, rfl⟩
              rw [← hz408] at hf
              have he := (Option.some.inj hf).symm
              have hl : lv_has ls 10 [(5, .int z408), (4, .int v391), (3, .int y3), (2, .int y2), (1, .ref a0), (0, .ref b)] := by rw [hz408]; exact lv_sub hl [0, 1, 2, 3, 4, 5] rfl
              exact hI1 _ he H locs ls hP hD hS hl
            · have hf := kIfF c407 hf
              refine lv_iconst (v := (0 : Int32)) hx hb dL_law_660 (by decide) ?_
              have he := Option.some.inj hf
              have he := hO1 _ he.symm
              exact absurd he (by decide)
      · have hf := kIfF c400 hf
        refine lv_iconst (v := (0 : Int32)) hx hb dL_law_628 (by decide) ?_
        have he := Option.some.inj hf
        exact absurd he (by decide)
  refine kcut (D := D) (A := A) (fun K => ∀ (R : (Nat → Int32)) (R2 : (Nat → Int32)) (HR : (Nat → Int32)) (HS : Int32) (HN : Int32) (PS : Int32) (TC : (Nat → Int32)) (TW : (Nat → Int32)) (TG : (Nat → Int32)) (CM : Int32) (y4 : Int32) (y3 : Int32) (y2 : Int32), fL_law_J537 fu R R2 HR HS HN y3 y2 = some true → K (wX3 cI a0 a1 a2 a3 a4 a5 a6 a7 a8 a9 a10 a11 R R2 HR HS HN TB LN PS TC TW TG CM) 10 [(4, .int y4), (3, .int y3), (2, .int y2), (1, .ref a0), (0, .ref b)] 537) ?_ (fun hJ537 => ?_)
  · intro R R2 HR HS HN PS TC TW TG CM y4 y3 y2 hf H locs ls hP hD hS hl
    unfold fL_law_J537 at hf
    have hP : va_P D vwCl (wX3 cI a0 a1 a2 a3 a4 a5 a6 a7 a8 a9 a10 a11 R R2 HR HS HN TB LN PS TC TW TG CM) H := hP
    have hD : va_D A (wX3 cI a0 a1 a2 a3 a4 a5 a6 a7 a8 a9 a10 a11 R R2 HR HS HN TB LN PS TC TW TG CM) := hD
    have hl : lv_has ls 10 [(4, .int y4), (3, .int y3), (2, .int y2), (1, .ref a0), (0, .ref b)] := hl
    refine lv_iconst (v := (0 : Int32)) hx hb dL_law_537 (by decide) ?_
    refine lv_istore (lv' := [(4, .int (0 : Int32)), (3, .int y3), (2, .int y2), (1, .ref a0), (0, .ref b)]) hx hb dL_law_538 hl (by decide) rfl (fun ls hl => ?_)
    have hl : lv_has ls 10 [(4, .int (0 : Int32)), (3, .int y3), (2, .int y2), (1, .ref a0), (0, .ref b)] := hl
    refine klp hf (fun t540 : (Nat → Int32) × Int32 => (wX3 cI a0 a1 a2 a3 a4 a5 a6 a7 a8 a9 a10 a11 R t540.1 HR HS HN TB LN PS TC TW TG CM)) 10 (fun t540 : (Nat → Int32) × Int32 => [(4, .int t540.2), (3, .int y3), (2, .int y2), (1, .ref a0), (0, .ref b)]) ?_ hP hD hS hl
    intro t540 x540_ hf hI1 hO1 H locs ls hP hD hS hl
    unfold fL_law_L540 at hf
    have hP : va_P D vwCl (wX3 cI a0 a1 a2 a3 a4 a5 a6 a7 a8 a9 a10 a11 R t540.1 HR HS HN TB LN PS TC TW TG CM) H := hP
    have hD : va_D A (wX3 cI a0 a1 a2 a3 a4 a5 a6 a7 a8 a9 a10 a11 R t540.1 HR HS HN TB LN PS TC TW TG CM) := hD
    have hl : lv_has ls 10 [(4, .int t540.2), (3, .int y3), (2, .int y2), (1, .ref a0), (0, .ref b)] := hl
    refine lv_iload hx hb dL_law_540 (lv_at hl 0 rfl) ?_
    refine lv_iload_n hx hb dL_law_542 rfl (lv_at hl 1 rfl) ?_
    refine lv_icmp_ge (tgt := 591) hx hb dL_law_543 (by decide) (fun c409 => ?_) (fun c409 => ?_)
    · have hf := kIfT c409 hf
      obtain ⟨r_, hf, he⟩ := kBind hf
      have he := (Option.some.inj he).symm
      have he := hO1 _ he
      rw [he] at hf
      exact hJ591 R t540.1 HR HS HN PS TC TW TG CM t540.2 y3 y2 hf H locs ls hP hD hS (lv_sub hl [0, 1, 2, 3, 4] rfl)
    · have hf := kIfF c409 hf
      refine lv_aload_n hx hb dL_law_546 rfl (lv_at hl 3 rfl) ?_
      refine lv_iload hx hb dL_law_547 (lv_at hl 0 rfl) ?_
      obtain ⟨v410, h411, hf⟩ := kBind hf
      refine kgoR (krunV (wc := (wX3 cI a0 a1 a2 a3 a4 a5 a6 a7 a8 a9 a10 a11 R t540.1 HR HS HN TB LN PS TC TW TG CM)) (As := [.int t540.2]) (rest := []) (ci := 3) hx hb hml hown hts hK (kX3_blocker l D cI fu a0 a1 a2 a3 a4 a5 a6 a7 a8 a9 a10 a11 R t540.1 HR HS HN TB LN PS TC TW TG CM t540.2 v410 h411) gL_law_X3_blocker rfl rfl rfl hdX3_blocker ⟨Nat.le_of_ble_eq_true rfl, Nat.le_of_ble_eq_true rfl⟩ hP hD rfl rfl rfl rfl hl.1 rfl (Nat.le_of_ble_eq_true rfl) dL_law_549 ⟨Nat.le_of_ble_eq_true rfl, Nat.le_of_ble_eq_true rfl⟩) hP hD hS hA [0, 1, 2, 3, 4, 5, 6, 7, 8, 9, 10, 11] rfl (fun H locs hP hS => ?_)
      refine lv_bipush (v := (-100 : Int32)) hx hb dL_law_552 (by decide) ?_
      refine lv_icmp_ne (tgt := 583) hx hb dL_law_554 (by decide) (fun c412 => ?_) (fun c412 => ?_)
      · have hf := kIfF c412 hf
        refine lv_iconst (v := (0 : Int32)) hx hb dL_law_583 (by decide) ?_
        have he := Option.some.inj hf
        have he := hO1 _ he.symm
        exact absurd he (by decide)
      · have hf := kIfT c412 hf
        refine lv_aload_n hx hb dL_law_557 rfl (lv_at hl 3 rfl) ?_
        refine lv_iload hx hb dL_law_558 (lv_at hl 0 rfl) ?_
        obtain ⟨v413, h414, hf⟩ := kBind hf
        refine kgoA (krunV (wc := (wX3 cI a0 a1 a2 a3 a4 a5 a6 a7 a8 a9 a10 a11 R t540.1 HR HS HN TB LN PS TC TW TG CM)) (As := [.int t540.2]) (rest := []) (ci := 3) hx hb hml hown hts hK (kX3_done l D cI fu a0 a1 a2 a3 a4 a5 a6 a7 a8 a9 a10 a11 R t540.1 HR HS HN TB LN PS TC TW TG CM t540.2 v413 h414) gL_law_X3_done rfl rfl rfl hdX3_done ⟨Nat.le_of_ble_eq_true rfl, Nat.le_of_ble_eq_true rfl⟩ hP hD rfl rfl rfl rfl hl.1 rfl (Nat.le_of_ble_eq_true rfl) dL_law_560 ⟨Nat.le_of_ble_eq_true rfl, Nat.le_of_ble_eq_true rfl⟩) hD hS hA (fun H locs hP hD hS => ?_)
        refine lv_aload_n hx hb dL_law_563 rfl (lv_at hl 3 rfl) ?_
        refine lv_iload hx hb dL_law_564 (lv_at hl 0 rfl) ?_
        obtain ⟨v415, h416, hf⟩ := kBind hf
        refine kgoR (krunV (wc := (wX3 cI a0 a1 a2 a3 a4 a5 a6 a7 a8 a9 a10 a11 R v413.2 HR HS HN TB LN PS TC TW TG CM)) (As := [.int t540.2]) (rest := [.int v413.1]) (ci := 3) hx hb hml hown hts hK (kX3_needs l D cI a0 a1 a2 a3 a4 a5 a6 a7 a8 a9 a10 a11 R v413.2 HR HS HN TB LN PS TC TW TG CM t540.2 v415 h416) gL_law_X3_needs rfl rfl rfl hdX3_needs ⟨Nat.le_of_ble_eq_true rfl, Nat.le_of_ble_eq_true rfl⟩ hP hD rfl rfl rfl rfl hl.1 rfl (Nat.le_of_ble_eq_true rfl) dL_law_566 ⟨Nat.le_of_ble_eq_true rfl, Nat.le_of_ble_eq_true rfl⟩) hP hD hS hA [0, 1, 2, 3, 4, 5, 6, 7, 8, 9, 10, 11] rfl (fun H locs hP hS => ?_)
        refine lv_icmp_ne (tgt := 583) hx hb dL_law_569 (by decide) (fun c417 => ?_) (fun c417 => ?_)
        · have hf := kIfF c417 hf
          refine lv_iconst (v := (0 : Int32)) hx hb dL_law_583 (by decide) ?_
          have he := Option.some.inj hf
          have he := hO1 _ he.symm
          exact absurd he (by decide)
        · have hf := kIfT c417 hf
          refine lv_aload_n hx hb dL_law_572 rfl (lv_at hl 3 rfl) ?_
          refine lv_iload hx hb dL_law_573 (lv_at hl 0 rfl) ?_
          refine lv_bipush (v := (50 : Int32)) hx hb dL_law_575 (by decide) ?_
          obtain ⟨v418, h419, hf⟩ := kBind hf
          refine kgoA (krunV (wc := (wX3 cI a0 a1 a2 a3 a4 a5 a6 a7 a8 a9 a10 a11 R v413.2 HR HS HN TB LN PS TC TW TG CM)) (As := [.int t540.2, .int (50 : Int32)]) (rest := []) (ci := 3) hx hb hml hown hts hK (kX3_waits l D cI fu a0 a1 a2 a3 a4 a5 a6 a7 a8 a9 a10 a11 R v413.2 HR HS HN TB LN PS TC TW TG CM t540.2 (50 : Int32) v418 h419) gL_law_X3_waits rfl rfl rfl hdX3_waits ⟨Nat.le_of_ble_eq_true rfl, Nat.le_of_ble_eq_true rfl⟩ hP hD rfl rfl rfl rfl hl.1 rfl (Nat.le_of_ble_eq_true rfl) dL_law_577 ⟨Nat.le_of_ble_eq_true rfl, Nat.le_of_ble_eq_true rfl⟩) hD hS hA (fun H locs hP hD hS => ?_)
          refine lv_if_eq (tgt := 585) hx hb dL_law_580 (by decide) (fun c420 => ?_) (fun c420 => ?_)
          · have hf := kIfT c420 hf
            refine lv_iinc (v := t540.2 + (1 : Int32)) (lv' := [(4, .int (t540.2 + (1 : Int32))), (3, .int y3), (2, .int y2), (1, .ref a0), (0, .ref b)]) hx hb dL_law_585 hl (k := 0) rfl rfl (by decide) rfl (fun ls hl => ?_)
            refine lv_goto (tgt := 540) hx hb dL_law_588 (by decide) ?_
            obtain ⟨z421, hz421⟩ : ∃ z : Int32, z = t540.2 + (1 : Int32) := ⟨_, rfl⟩
            rw [← hz421] at hf
            have he := (Option.some.inj hf).symm
            have hl : lv_has ls 10 [(4, .int z421), (3, .int y3), (2, .int y2), (1, .ref a0), (0, .ref b)] := by rw [hz421]; exact lv_sub hl [0, 1, 2, 3, 4] rfl
            exact hI1 _ he H locs ls hP hD hS hl
          · have hf := kIfF c420 hf
            refine lv_iconst (v := (0 : Int32)) hx hb dL_law_583 (by decide) ?_
            have he := Option.some.inj hf
            have he := hO1 _ he.symm
            exact absurd he (by decide)
  refine kcut (D := D) (A := A) (fun K => ∀ (R : (Nat → Int32)) (R2 : (Nat → Int32)) (HR : (Nat → Int32)) (HS : Int32) (HN : Int32) (PS : Int32) (TC : (Nat → Int32)) (TW : (Nat → Int32)) (TG : (Nat → Int32)) (CM : Int32) (y4 : Int32) (y3 : Int32) (y2 : Int32), fL_law_J497 fu R R2 HR HS HN y3 y2 = some true → K (wX3 cI a0 a1 a2 a3 a4 a5 a6 a7 a8 a9 a10 a11 R R2 HR HS HN TB LN PS TC TW TG CM) 10 [(4, .int y4), (3, .int y3), (2, .int y2), (1, .ref a0), (0, .ref b)] 497) ?_ (fun hJ497 => ?_)
  · intro R R2 HR HS HN PS TC TW TG CM y4 y3 y2 hf H locs ls hP hD hS hl
    unfold fL_law_J497 at hf
    have hP : va_P D vwCl (wX3 cI a0 a1 a2 a3 a4 a5 a6 a7 a8 a9 a10 a11 R R2 HR HS HN TB LN PS TC TW TG CM) H := hP
    have hD : va_D A (wX3 cI a0 a1 a2 a3 a4 a5 a6 a7 a8 a9 a10 a11 R R2 HR HS HN TB LN PS TC TW TG CM) := hD
    have hl : lv_has ls 10 [(4, .int y4), (3, .int y3), (2, .int y2), (1, .ref a0), (0, .ref b)] := hl
    refine lv_iconst (v := (0 : Int32)) hx hb dL_law_497 (by decide) ?_
    refine lv_istore (lv' := [(4, .int (0 : Int32)), (3, .int y3), (2, .int y2), (1, .ref a0), (0, .ref b)]) hx hb dL_law_498 hl (by decide) rfl (fun ls hl => ?_)
    have hl : lv_has ls 10 [(4, .int (0 : Int32)), (3, .int y3), (2, .int y2), (1, .ref a0), (0, .ref b)] := hl
    refine klp hf (fun t500 : (Nat → Int32) × (Nat → Int32) × Int32 × Int32 × Int32 => (wX3 cI a0 a1 a2 a3 a4 a5 a6 a7 a8 a9 a10 a11 t500.1 R2 t500.2.1 t500.2.2.1 t500.2.2.2.1 TB LN PS TC TW TG CM)) 10 (fun t500 : (Nat → Int32) × (Nat → Int32) × Int32 × Int32 × Int32 => [(4, .int t500.2.2.2.2), (3, .int y3), (2, .int y2), (1, .ref a0), (0, .ref b)]) ?_ hP hD hS hl
    intro t500 x500_ hf hI1 hO1 H locs ls hP hD hS hl
    unfold fL_law_L500 at hf
    have hP : va_P D vwCl (wX3 cI a0 a1 a2 a3 a4 a5 a6 a7 a8 a9 a10 a11 t500.1 R2 t500.2.1 t500.2.2.1 t500.2.2.2.1 TB LN PS TC TW TG CM) H := hP
    have hD : va_D A (wX3 cI a0 a1 a2 a3 a4 a5 a6 a7 a8 a9 a10 a11 t500.1 R2 t500.2.1 t500.2.2.1 t500.2.2.2.1 TB LN PS TC TW TG CM) := hD
    have hl : lv_has ls 10 [(4, .int t500.2.2.2.2), (3, .int y3), (2, .int y2), (1, .ref a0), (0, .ref b)] := hl
    refine lv_iload hx hb dL_law_500 (lv_at hl 0 rfl) ?_
    refine lv_iload_n hx hb dL_law_502 rfl (lv_at hl 1 rfl) ?_
    refine lv_icmp_ge (tgt := 537) hx hb dL_law_503 (by decide) (fun c422 => ?_) (fun c422 => ?_)
    · have hf := kIfT c422 hf
      obtain ⟨r_, hf, he⟩ := kBind hf
      have he := (Option.some.inj he).symm
      have he := hO1 _ he
      rw [he] at hf
      exact hJ537 t500.1 R2 t500.2.1 t500.2.2.1 t500.2.2.2.1 PS TC TW TG CM t500.2.2.2.2 y3 y2 hf H locs ls hP hD hS (lv_sub hl [0, 1, 2, 3, 4] rfl)
    · have hf := kIfF c422 hf
      refine lv_iconst (v := (0 : Int32)) hx hb dL_law_506 (by decide) ?_
      refine lv_istore (lv' := [(5, .int (0 : Int32)), (4, .int t500.2.2.2.2), (3, .int y3), (2, .int y2), (1, .ref a0), (0, .ref b)]) hx hb dL_law_507 hl (by decide) rfl (fun ls hl => ?_)
      have hl : lv_has ls 10 [(5, .int (0 : Int32)), (4, .int t500.2.2.2.2), (3, .int y3), (2, .int y2), (1, .ref a0), (0, .ref b)] := hl
      refine klp hf (fun t509 : (Nat → Int32) × (Nat → Int32) × Int32 × Int32 × Int32 => (wX3 cI a0 a1 a2 a3 a4 a5 a6 a7 a8 a9 a10 a11 t509.1 R2 t509.2.1 t509.2.2.1 t509.2.2.2.1 TB LN PS TC TW TG CM)) 10 (fun t509 : (Nat → Int32) × (Nat → Int32) × Int32 × Int32 × Int32 => [(5, .int t509.2.2.2.2), (4, .int t500.2.2.2.2), (3, .int y3), (2, .int y2), (1, .ref a0), (0, .ref b)]) ?_ hP hD hS hl
      intro t509 x509_ hf hI2 hO2 H locs ls hP hD hS hl
      unfold fL_law_L509 at hf
      have hP : va_P D vwCl (wX3 cI a0 a1 a2 a3 a4 a5 a6 a7 a8 a9 a10 a11 t509.1 R2 t509.2.1 t509.2.2.1 t509.2.2.2.1 TB LN PS TC TW TG CM) H := hP
      have hD : va_D A (wX3 cI a0 a1 a2 a3 a4 a5 a6 a7 a8 a9 a10 a11 t509.1 R2 t509.2.1 t509.2.2.1 t509.2.2.2.1 TB LN PS TC TW TG CM) := hD
      have hl : lv_has ls 10 [(5, .int t509.2.2.2.2), (4, .int t500.2.2.2.2), (3, .int y3), (2, .int y2), (1, .ref a0), (0, .ref b)] := hl
      refine lv_iload hx hb dL_law_509 (lv_at hl 0 rfl) ?_
      refine lv_bipush (v := (6 : Int32)) hx hb dL_law_511 (by decide) ?_
      refine lv_icmp_ge (tgt := 531) hx hb dL_law_513 (by decide) (fun c423 => ?_) (fun c423 => ?_)
      · have hf := kIfT c423 hf
        refine lv_iinc (v := t500.2.2.2.2 + (1 : Int32)) (lv' := [(4, .int (t500.2.2.2.2 + (1 : Int32))), (5, .int t509.2.2.2.2), (3, .int y3), (2, .int y2), (1, .ref a0), (0, .ref b)]) hx hb dL_law_531 hl (k := 1) rfl rfl (by decide) rfl (fun ls hl => ?_)
        refine lv_goto (tgt := 500) hx hb dL_law_534 (by decide) ?_
        obtain ⟨z424, hz424⟩ : ∃ z : Int32, z = t500.2.2.2.2 + (1 : Int32) := ⟨_, rfl⟩
        rw [← hz424] at hf
        have he := (Option.some.inj hf).symm
        have he := (hO2 _ he).symm
        have hl : lv_has ls 10 [(4, .int z424), (3, .int y3), (2, .int y2), (1, .ref a0), (0, .ref b)] := by rw [hz424]; exact lv_sub hl [0, 2, 3, 4, 5] rfl
        exact hI1 _ he H locs ls hP hD hS hl
      · have hf := kIfF c423 hf
        refine lv_aload_n hx hb dL_law_516 rfl (lv_at hl 4 rfl) ?_
        refine lv_iload hx hb dL_law_517 (lv_at hl 1 rfl) ?_
        refine lv_iload hx hb dL_law_519 (lv_at hl 0 rfl) ?_
        obtain ⟨v425, h426, hf⟩ := kBind hf
        refine kgoA (krunV (wc := (wX3 cI a0 a1 a2 a3 a4 a5 a6 a7 a8 a9 a10 a11 t509.1 R2 t509.2.1 t509.2.2.1 t509.2.2.2.1 TB LN PS TC TW TG CM)) (As := [.int t500.2.2.2.2, .int t509.2.2.2.2]) (rest := []) (ci := 3) hx hb hml hown hts hK (kX3_removeArc l D cI a0 a1 a2 a3 a4 a5 a6 a7 a8 a9 a10 a11 t509.1 R2 t509.2.1 t509.2.2.1 t509.2.2.2.1 TB LN PS TC TW TG CM t500.2.2.2.2 t509.2.2.2.2 v425 h426) gL_law_X3_removeArc rfl rfl rfl hdX3_removeArc ⟨Nat.le_of_ble_eq_true rfl, Nat.le_of_ble_eq_true rfl⟩ hP hD rfl rfl rfl rfl hl.1 rfl (Nat.le_of_ble_eq_true rfl) dL_law_521 ⟨Nat.le_of_ble_eq_true rfl, Nat.le_of_ble_eq_true rfl⟩) hD hS hA (fun H locs hP hD hS => ?_)
        refine lv_pop hx hb dL_law_524 rfl ?_
        refine lv_iinc (v := t509.2.2.2.2 + (1 : Int32)) (lv' := [(5, .int (t509.2.2.2.2 + (1 : Int32))), (4, .int t500.2.2.2.2), (3, .int y3), (2, .int y2), (1, .ref a0), (0, .ref b)]) hx hb dL_law_525 hl (k := 0) rfl rfl (by decide) rfl (fun ls hl => ?_)
        refine lv_goto (tgt := 509) hx hb dL_law_528 (by decide) ?_
        obtain ⟨z427, hz427⟩ : ∃ z : Int32, z = t509.2.2.2.2 + (1 : Int32) := ⟨_, rfl⟩
        rw [← hz427] at hf
        have he := (Option.some.inj hf).symm
        have hl : lv_has ls 10 [(5, .int z427), (4, .int t500.2.2.2.2), (3, .int y3), (2, .int y2), (1, .ref a0), (0, .ref b)] := by rw [hz427]; exact lv_sub hl [0, 1, 2, 3, 4, 5] rfl
        exact hI2 _ he H locs ls hP hD hS hl
  refine kcut (D := D) (A := A) (fun K => ∀ (R : (Nat → Int32)) (R2 : (Nat → Int32)) (HR : (Nat → Int32)) (HS : Int32) (HN : Int32) (PS : Int32) (TC : (Nat → Int32)) (TW : (Nat → Int32)) (TG : (Nat → Int32)) (CM : Int32) (y4 : Int32) (y3 : Int32) (y2 : Int32), fL_law_J269 fu R R2 HR HS HN y3 y2 = some true → K (wX3 cI a0 a1 a2 a3 a4 a5 a6 a7 a8 a9 a10 a11 R R2 HR HS HN TB LN PS TC TW TG CM) 10 [(4, .int y4), (3, .int y3), (2, .int y2), (1, .ref a0), (0, .ref b)] 269) ?_ (fun hJ269 => ?_)
  · intro R R2 HR HS HN PS TC TW TG CM y4 y3 y2 hf H locs ls hP hD hS hl
    unfold fL_law_J269 at hf
    have hP : va_P D vwCl (wX3 cI a0 a1 a2 a3 a4 a5 a6 a7 a8 a9 a10 a11 R R2 HR HS HN TB LN PS TC TW TG CM) H := hP
    have hD : va_D A (wX3 cI a0 a1 a2 a3 a4 a5 a6 a7 a8 a9 a10 a11 R R2 HR HS HN TB LN PS TC TW TG CM) := hD
    have hl : lv_has ls 10 [(4, .int y4), (3, .int y3), (2, .int y2), (1, .ref a0), (0, .ref b)] := hl
    refine lv_iconst (v := (0 : Int32)) hx hb dL_law_269 (by decide) ?_
    refine lv_istore (lv' := [(4, .int (0 : Int32)), (3, .int y3), (2, .int y2), (1, .ref a0), (0, .ref b)]) hx hb dL_law_270 hl (by decide) rfl (fun ls hl => ?_)
    have hl : lv_has ls 10 [(4, .int (0 : Int32)), (3, .int y3), (2, .int y2), (1, .ref a0), (0, .ref b)] := hl
    refine klp hf (fun t272 : (Nat → Int32) × (Nat → Int32) × Int32 × Int32 × Int32 => (wX3 cI a0 a1 a2 a3 a4 a5 a6 a7 a8 a9 a10 a11 t272.1 R2 t272.2.1 t272.2.2.1 t272.2.2.2.1 TB LN PS TC TW TG CM)) 10 (fun t272 : (Nat → Int32) × (Nat → Int32) × Int32 × Int32 × Int32 => [(4, .int t272.2.2.2.2), (3, .int y3), (2, .int y2), (1, .ref a0), (0, .ref b)]) ?_ hP hD hS hl
    intro t272 x272_ hf hI1 hO1 H locs ls hP hD hS hl
    unfold fL_law_L272 at hf
    refine kcut (D := D) (A := A) (fun K => ∀ (R : (Nat → Int32)) (HR : (Nat → Int32)) (HS : Int32) (HN : Int32) (y9 : Int32) (y8 : Int32) (y7 : Int32) (y6 : Int32) (y5 : Int32) (y4 : Int32), fL_law_J481 fu R HR HS HN y4 = some x272_ → K (wX3 cI a0 a1 a2 a3 a4 a5 a6 a7 a8 a9 a10 a11 R R2 HR HS HN TB LN PS TC TW TG CM) 10 [(9, .int y9), (8, .int y8), (7, .int y7), (6, .int y6), (5, .int y5), (4, .int y4), (3, .int y3), (2, .int y2), (1, .ref a0), (0, .ref b)] 481) ?_ (fun hJ481 => ?_)
    · intro R HR HS HN y9 y8 y7 y6 y5 y4 hf H locs ls hP hD hS hl
      unfold fL_law_J481 at hf
      have hP : va_P D vwCl (wX3 cI a0 a1 a2 a3 a4 a5 a6 a7 a8 a9 a10 a11 R R2 HR HS HN TB LN PS TC TW TG CM) H := hP
      have hD : va_D A (wX3 cI a0 a1 a2 a3 a4 a5 a6 a7 a8 a9 a10 a11 R R2 HR HS HN TB LN PS TC TW TG CM) := hD
      have hl : lv_has ls 10 [(9, .int y9), (8, .int y8), (7, .int y7), (6, .int y6), (5, .int y5), (4, .int y4), (3, .int y3), (2, .int y2), (1, .ref a0), (0, .ref b)] := hl
      refine lv_aload_n hx hb dL_law_481 rfl (lv_at hl 8 rfl) ?_
      refine lv_iconst (v := (1 : Int32)) hx hb dL_law_482 (by decide) ?_
      obtain ⟨v428, h429, hf⟩ := kBind hf
      refine kgoR (krunS (wc := (wX3 cI a0 a1 a2 a3 a4 a5 a6 a7 a8 a9 a10 a11 R R2 HR HS HN TB LN PS TC TW TG CM)) (As := [.ref a0, .int (bI true)]) (rest := []) hx hb hml hown hts hK (kL_isSound l D cI fu a0 a1 a2 a3 a4 a5 a6 a7 a8 a9 a10 a11 R R2 HR HS HN TB LN PS TC TW TG CM true v428 h429) gL_law_L_isSound rfl rfl rfl hdL_isSound ⟨Nat.le_of_ble_eq_true rfl, Nat.le_of_ble_eq_true rfl⟩ hP hD rfl hl.1 rfl (Nat.le_of_ble_eq_true rfl) dL_law_483 ⟨Nat.le_of_ble_eq_true rfl, Nat.le_of_ble_eq_true rfl⟩) hP hD hS hA [0, 1, 2, 3, 4, 5, 6, 7, 8, 9, 10, 11] rfl (fun H locs hP hS => ?_)
      refine kif_neb (tgt := 491) hx hb dL_law_486 (by decide) (fun c430 => ?_) (fun c430 => ?_)
      · have hf := kIfT c430 hf
        refine lv_iinc (v := y4 + (1 : Int32)) (lv' := [(4, .int (y4 + (1 : Int32))), (9, .int y9), (8, .int y8), (7, .int y7), (6, .int y6), (5, .int y5), (3, .int y3), (2, .int y2), (1, .ref a0), (0, .ref b)]) hx hb dL_law_491 hl (k := 5) rfl rfl (by decide) rfl (fun ls hl => ?_)
        refine lv_goto (tgt := 272) hx hb dL_law_494 (by decide) ?_
        obtain ⟨z431, hz431⟩ : ∃ z : Int32, z = y4 + (1 : Int32) := ⟨_, rfl⟩
        rw [← hz431] at hf
        have he := (Option.some.inj hf).symm
        have hl : lv_has ls 10 [(4, .int z431), (3, .int y3), (2, .int y2), (1, .ref a0), (0, .ref b)] := by rw [hz431]; exact lv_sub hl [0, 6, 7, 8, 9] rfl
        exact hI1 _ he H locs ls hP hD hS hl
      · have hf := kIfF c430 hf
        refine lv_iconst (v := (0 : Int32)) hx hb dL_law_489 (by decide) ?_
        have he := Option.some.inj hf
        have he := hO1 _ he.symm
        exact absurd he (by decide)
    refine kcut (D := D) (A := A) (fun K => ∀ (R : (Nat → Int32)) (HR : (Nat → Int32)) (HS : Int32) (HN : Int32) (y6 : Int32) (y5 : Int32) (y4 : Int32), fL_law_J310 fu R HR HS HN y6 y5 y4 = some x272_ → K (wX3 cI a0 a1 a2 a3 a4 a5 a6 a7 a8 a9 a10 a11 R R2 HR HS HN TB LN PS TC TW TG CM) 10 [(6, .int y6), (5, .int y5), (4, .int y4), (3, .int y3), (2, .int y2), (1, .ref a0), (0, .ref b)] 310) ?_ (fun hJ310 => ?_)
    · intro R HR HS HN y6 y5 y4 hf H locs ls hP hD hS hl
      unfold fL_law_J310 at hf
      have hP : va_P D vwCl (wX3 cI a0 a1 a2 a3 a4 a5 a6 a7 a8 a9 a10 a11 R R2 HR HS HN TB LN PS TC TW TG CM) H := hP
      have hD : va_D A (wX3 cI a0 a1 a2 a3 a4 a5 a6 a7 a8 a9 a10 a11 R R2 HR HS HN TB LN PS TC TW TG CM) := hD
      have hl : lv_has ls 10 [(6, .int y6), (5, .int y5), (4, .int y4), (3, .int y3), (2, .int y2), (1, .ref a0), (0, .ref b)] := hl
      refine lv_aload_n hx hb dL_law_310 rfl (lv_at hl 5 rfl) ?_
      refine lv_iload hx hb dL_law_311 (lv_at hl 2 rfl) ?_
      obtain ⟨v432, h433, hf⟩ := kBind hf
      refine kgoR (krunV (wc := (wX3 cI a0 a1 a2 a3 a4 a5 a6 a7 a8 a9 a10 a11 R R2 HR HS HN TB LN PS TC TW TG CM)) (As := [.int y4]) (rest := []) (ci := 3) hx hb hml hown hts hK (kX3_needs l D cI a0 a1 a2 a3 a4 a5 a6 a7 a8 a9 a10 a11 R R2 HR HS HN TB LN PS TC TW TG CM y4 v432 h433) gL_law_X3_needs rfl rfl rfl hdX3_needs ⟨Nat.le_of_ble_eq_true rfl, Nat.le_of_ble_eq_true rfl⟩ hP hD rfl rfl rfl rfl hl.1 rfl (Nat.le_of_ble_eq_true rfl) dL_law_313 ⟨Nat.le_of_ble_eq_true rfl, Nat.le_of_ble_eq_true rfl⟩) hP hD hS hA [0, 1, 2, 3, 4, 5, 6, 7, 8, 9, 10, 11] rfl (fun H locs hP hS => ?_)
      refine lv_istore (lv' := [(7, .int v432), (6, .int y6), (5, .int y5), (4, .int y4), (3, .int y3), (2, .int y2), (1, .ref a0), (0, .ref b)]) hx hb dL_law_316 hl (by decide) rfl (fun ls hl => ?_)
      refine lv_aload_n hx hb dL_law_318 rfl (lv_at hl 6 rfl) ?_
      refine lv_iload hx hb dL_law_319 (lv_at hl 3 rfl) ?_
      refine lv_iconst (v := (0 : Int32)) hx hb dL_law_321 (by decide) ?_
      obtain ⟨v434, h435, hf⟩ := kBind hf
      refine kgoR (krunV (wc := (wX3 cI a0 a1 a2 a3 a4 a5 a6 a7 a8 a9 a10 a11 R R2 HR HS HN TB LN PS TC TW TG CM)) (As := [.int y4, .int (0 : Int32)]) (rest := []) (ci := 3) hx hb hml hown hts hK (kX3_crane l D cI fu a0 a1 a2 a3 a4 a5 a6 a7 a8 a9 a10 a11 R R2 HR HS HN TB LN PS TC TW TG CM y4 (0 : Int32) v434 h435) gL_law_X3_crane rfl rfl rfl hdX3_crane ⟨Nat.le_of_ble_eq_true rfl, Nat.le_of_ble_eq_true rfl⟩ hP hD rfl rfl rfl rfl hl.1 rfl (Nat.le_of_ble_eq_true rfl) dL_law_322 ⟨Nat.le_of_ble_eq_true rfl, Nat.le_of_ble_eq_true rfl⟩) hP hD hS hA [0, 1, 2, 3, 4, 5, 6, 7, 8, 9, 10, 11] rfl (fun H locs hP hS => ?_)
      refine lv_aload_n hx hb dL_law_325 rfl (lv_at hl 6 rfl) ?_
      refine lv_iload hx hb dL_law_326 (lv_at hl 3 rfl) ?_
      refine lv_iconst (v := (4 : Int32)) hx hb dL_law_328 (by decide) ?_
      obtain ⟨v436, h437, hf⟩ := kBind hf
      refine kgoR (krunV (wc := (wX3 cI a0 a1 a2 a3 a4 a5 a6 a7 a8 a9 a10 a11 R R2 HR HS HN TB LN PS TC TW TG CM)) (As := [.int y4, .int (4 : Int32)]) (rest := [.int v434]) (ci := 3) hx hb hml hown hts hK (kX3_crane l D cI fu a0 a1 a2 a3 a4 a5 a6 a7 a8 a9 a10 a11 R R2 HR HS HN TB LN PS TC TW TG CM y4 (4 : Int32) v436 h437) gL_law_X3_crane rfl rfl rfl hdX3_crane ⟨Nat.le_of_ble_eq_true rfl, Nat.le_of_ble_eq_true rfl⟩ hP hD rfl rfl rfl rfl hl.1 rfl (Nat.le_of_ble_eq_true rfl) dL_law_329 ⟨Nat.le_of_ble_eq_true rfl, Nat.le_of_ble_eq_true rfl⟩) hP hD hS hA [0, 1, 2, 3, 4, 5, 6, 7, 8, 9, 10, 11] rfl (fun H locs hP hS => ?_)
      refine lv_iadd hx hb dL_law_332 ?_
      refine lv_bipush (v := (36 : Int32)) hx hb dL_law_333 (by decide) ?_
      refine lv_iadd hx hb dL_law_335 ?_
      refine lv_bipush (v := (36 : Int32)) hx hb dL_law_336 (by decide) ?_
      refine kirem hx hb dL_law_338 (by decide) ?_
      refine lv_istore (lv' := [(8, .int (jrem ((v434 + v436) + (36 : Int32)) (36 : Int32))), (7, .int v432), (6, .int y6), (5, .int y5), (4, .int y4), (3, .int y3), (2, .int y2), (1, .ref a0), (0, .ref b)]) hx hb dL_law_339 hl (by decide) rfl (fun ls hl => ?_)
      refine lv_aload_n hx hb dL_law_341 rfl (lv_at hl 7 rfl) ?_
      refine lv_iload hx hb dL_law_342 (lv_at hl 4 rfl) ?_
      refine lv_iconst (v := (1 : Int32)) hx hb dL_law_344 (by decide) ?_
      refine lv_iload hx hb dL_law_345 (lv_at hl 4 rfl) ?_
      refine lv_iadd hx hb dL_law_347 ?_
      obtain ⟨v438, h439, hf⟩ := kBind hf
      refine kgoA (krunV (wc := (wX3 cI a0 a1 a2 a3 a4 a5 a6 a7 a8 a9 a10 a11 R R2 HR HS HN TB LN PS TC TW TG CM)) (As := [.int y4, .int ((1 : Int32) + y4)]) (rest := []) (ci := 3) hx hb hml hown hts hK (kX3_override l D cI fu a0 a1 a2 a3 a4 a5 a6 a7 a8 a9 a10 a11 R R2 HR HS HN TB LN PS TC TW TG CM y4 ((1 : Int32) + y4) v438 h439) gL_law_X3_override rfl rfl rfl hdX3_override ⟨Nat.le_of_ble_eq_true rfl, Nat.le_of_ble_eq_true rfl⟩ hP hD rfl rfl rfl rfl hl.1 rfl (Nat.le_of_ble_eq_true rfl) dL_law_348 ⟨Nat.le_of_ble_eq_true rfl, Nat.le_of_ble_eq_true rfl⟩) hD hS hA (fun H locs hP hD hS => ?_)
      refine lv_istore (lv' := [(9, .int v438.1), (8, .int (jrem ((v434 + v436) + (36 : Int32)) (36 : Int32))), (7, .int v432), (6, .int y6), (5, .int y5), (4, .int y4), (3, .int y3), (2, .int y2), (1, .ref a0), (0, .ref b)]) hx hb dL_law_351 hl (by decide) rfl (fun ls hl => ?_)
      refine lv_iload hx hb dL_law_353 (lv_at hl 3 rfl) ?_
      refine lv_if_ne (tgt := 376) hx hb dL_law_355 (by decide) (fun c440 => ?_) (fun c440 => ?_)
      · have hf := kIfF c440 hf
        refine lv_iload hx hb dL_law_376 (lv_at hl 0 rfl) ?_
        refine lv_aload_n hx hb dL_law_378 rfl (lv_at hl 8 rfl) ?_
        obtain ⟨v441, h442, hf⟩ := kBind hf
        refine kgoR (krunV (wc := (wX3 cI a0 a1 a2 a3 a4 a5 a6 a7 a8 a9 a10 a11 v438.2.1 R2 v438.2.2.1 v438.2.2.2.1 v438.2.2.2.2 TB LN PS TC TW TG CM)) (As := []) (rest := [.int v438.1]) (ci := 3) hx hb hml hown hts hK (kX3_conflicts l D cI fu a0 a1 a2 a3 a4 a5 a6 a7 a8 a9 a10 a11 v438.2.1 R2 v438.2.2.1 v438.2.2.2.1 v438.2.2.2.2 TB LN PS TC TW TG CM v441 h442) gL_law_X3_conflicts rfl rfl rfl hdX3_conflicts ⟨Nat.le_of_ble_eq_true rfl, Nat.le_of_ble_eq_true rfl⟩ hP hD rfl rfl rfl rfl hl.1 rfl (Nat.le_of_ble_eq_true rfl) dL_law_379 ⟨Nat.le_of_ble_eq_true rfl, Nat.le_of_ble_eq_true rfl⟩) hP hD hS hA [0, 1, 2, 3, 4, 5, 6, 7, 8, 9, 10, 11] rfl (fun H locs hP hS => ?_)
        refine lv_icmp_ne (tgt := 479) hx hb dL_law_382 (by decide) (fun c443 => ?_) (fun c443 => ?_)
        · have hf := kIfF c443 hf
          refine lv_iconst (v := (0 : Int32)) hx hb dL_law_479 (by decide) ?_
          have he := Option.some.inj hf
          have he := hO1 _ he.symm
          exact absurd he (by decide)
        · have hf := kIfT c443 hf
          refine lv_aload_n hx hb dL_law_385 rfl (lv_at hl 8 rfl) ?_
          refine lv_iload hx hb dL_law_386 (lv_at hl 5 rfl) ?_
          refine lv_iconst (v := (0 : Int32)) hx hb dL_law_388 (by decide) ?_
          obtain ⟨v444, h445, hf⟩ := kBind hf
          refine kgoR (krunV (wc := (wX3 cI a0 a1 a2 a3 a4 a5 a6 a7 a8 a9 a10 a11 v438.2.1 R2 v438.2.2.1 v438.2.2.2.1 v438.2.2.2.2 TB LN PS TC TW TG CM)) (As := [.int y4, .int (0 : Int32)]) (rest := []) (ci := 3) hx hb hml hown hts hK (kX3_crane l D cI fu a0 a1 a2 a3 a4 a5 a6 a7 a8 a9 a10 a11 v438.2.1 R2 v438.2.2.1 v438.2.2.2.1 v438.2.2.2.2 TB LN PS TC TW TG CM y4 (0 : Int32) v444 h445) gL_law_X3_crane rfl rfl rfl hdX3_crane ⟨Nat.le_of_ble_eq_true rfl, Nat.le_of_ble_eq_true rfl⟩ hP hD rfl rfl rfl rfl hl.1 rfl (Nat.le_of_ble_eq_true rfl) dL_law_389 ⟨Nat.le_of_ble_eq_true rfl, Nat.le_of_ble_eq_true rfl⟩) hP hD hS hA [0, 1, 2, 3, 4, 5, 6, 7, 8, 9, 10, 11] rfl (fun H locs hP hS => ?_)
          refine lv_iload hx hb dL_law_392 (lv_at hl 1 rfl) ?_
          refine lv_icmp_ne (tgt := 479) hx hb dL_law_394 (by decide) (fun c446 => ?_) (fun c446 => ?_)
          · have hf := kIfF c446 hf
            refine lv_iconst (v := (0 : Int32)) hx hb dL_law_479 (by decide) ?_
            have he := Option.some.inj hf
            have he := hO1 _ he.symm
            exact absurd he (by decide)
          · have hf := kIfT c446 hf
            refine lv_aload_n hx hb dL_law_397 rfl (lv_at hl 8 rfl) ?_
            refine lv_iload hx hb dL_law_398 (lv_at hl 5 rfl) ?_
            obtain ⟨v447, h448, hf⟩ := kBind hf
            refine kgoR (krunV (wc := (wX3 cI a0 a1 a2 a3 a4 a5 a6 a7 a8 a9 a10 a11 v438.2.1 R2 v438.2.2.1 v438.2.2.2.1 v438.2.2.2.2 TB LN PS TC TW TG CM)) (As := [.int y4]) (rest := []) (ci := 3) hx hb hml hown hts hK (kX3_needs l D cI a0 a1 a2 a3 a4 a5 a6 a7 a8 a9 a10 a11 v438.2.1 R2 v438.2.2.1 v438.2.2.2.1 v438.2.2.2.2 TB LN PS TC TW TG CM y4 v447 h448) gL_law_X3_needs rfl rfl rfl hdX3_needs ⟨Nat.le_of_ble_eq_true rfl, Nat.le_of_ble_eq_true rfl⟩ hP hD rfl rfl rfl rfl hl.1 rfl (Nat.le_of_ble_eq_true rfl) dL_law_400 ⟨Nat.le_of_ble_eq_true rfl, Nat.le_of_ble_eq_true rfl⟩) hP hD hS hA [0, 1, 2, 3, 4, 5, 6, 7, 8, 9, 10, 11] rfl (fun H locs hP hS => ?_)
            refine lv_iload hx hb dL_law_403 (lv_at hl 2 rfl) ?_
            refine lv_aload_n hx hb dL_law_405 rfl (lv_at hl 8 rfl) ?_
            refine lv_iload hx hb dL_law_406 (lv_at hl 5 rfl) ?_
            refine lv_iconst (v := (1 : Int32)) hx hb dL_law_408 (by decide) ?_
            obtain ⟨v449, h450, hf⟩ := kBind hf
            refine kgoR (krunV (wc := (wX3 cI a0 a1 a2 a3 a4 a5 a6 a7 a8 a9 a10 a11 v438.2.1 R2 v438.2.2.1 v438.2.2.2.1 v438.2.2.2.2 TB LN PS TC TW TG CM)) (As := [.int y4, .int (1 : Int32)]) (rest := [.int v432, .int v447]) (ci := 3) hx hb hml hown hts hK (kX3_crane l D cI fu a0 a1 a2 a3 a4 a5 a6 a7 a8 a9 a10 a11 v438.2.1 R2 v438.2.2.1 v438.2.2.2.1 v438.2.2.2.2 TB LN PS TC TW TG CM y4 (1 : Int32) v449 h450) gL_law_X3_crane rfl rfl rfl hdX3_crane ⟨Nat.le_of_ble_eq_true rfl, Nat.le_of_ble_eq_true rfl⟩ hP hD rfl rfl rfl rfl hl.1 rfl (Nat.le_of_ble_eq_true rfl) dL_law_409 ⟨Nat.le_of_ble_eq_true rfl, Nat.le_of_ble_eq_true rfl⟩) hP hD hS hA [0, 1, 2, 3, 4, 5, 6, 7, 8, 9, 10, 11] rfl (fun H locs hP hS => ?_)
            refine lv_isub hx hb dL_law_412 ?_
            refine lv_icmp_ne (tgt := 479) hx hb dL_law_413 (by decide) (fun c451 => ?_) (fun c451 => ?_)
            · have hf := kIfF c451 hf
              refine lv_iconst (v := (0 : Int32)) hx hb dL_law_479 (by decide) ?_
              have he := Option.some.inj hf
              have he := hO1 _ he.symm
              exact absurd he (by decide)
            · have hf := kIfT c451 hf
              refine lv_aload_n hx hb dL_law_416 rfl (lv_at hl 8 rfl) ?_
              obtain ⟨v452, h453, hf⟩ := kBind hf
              refine kgoR (krunV (wc := (wX3 cI a0 a1 a2 a3 a4 a5 a6 a7 a8 a9 a10 a11 v438.2.1 R2 v438.2.2.1 v438.2.2.2.1 v438.2.2.2.2 TB LN PS TC TW TG CM)) (As := []) (rest := []) (ci := 3) hx hb hml hown hts hK (kX3_notes l D cI a0 a1 a2 a3 a4 a5 a6 a7 a8 a9 a10 a11 v438.2.1 R2 v438.2.2.1 v438.2.2.2.1 v438.2.2.2.2 TB LN PS TC TW TG CM v452 h453) gL_law_X3_notes rfl rfl rfl hdX3_notes ⟨Nat.le_of_ble_eq_true rfl, Nat.le_of_ble_eq_true rfl⟩ hP hD rfl rfl rfl rfl hl.1 rfl (Nat.le_of_ble_eq_true rfl) dL_law_417 ⟨Nat.le_of_ble_eq_true rfl, Nat.le_of_ble_eq_true rfl⟩) hP hD hS hA [0, 1, 2, 3, 4, 5, 6, 7, 8, 9, 10, 11] rfl (fun H locs hP hS => ?_)
              refine lv_iload hx hb dL_law_420 (lv_at hl 4 rfl) ?_
              refine lv_iconst (v := (1 : Int32)) hx hb dL_law_422 (by decide) ?_
              refine lv_iadd hx hb dL_law_423 ?_
              refine lv_icmp_ne (tgt := 479) hx hb dL_law_424 (by decide) (fun c454 => ?_) (fun c454 => ?_)
              · have hf := kIfF c454 hf
                refine lv_iconst (v := (0 : Int32)) hx hb dL_law_479 (by decide) ?_
                have he := Option.some.inj hf
                have he := hO1 _ he.symm
                exact absurd he (by decide)
              · have hf := kIfT c454 hf
                refine lv_aload_n hx hb dL_law_427 rfl (lv_at hl 8 rfl) ?_
                refine lv_iload hx hb dL_law_428 (lv_at hl 4 rfl) ?_
                refine lv_iconst (v := (0 : Int32)) hx hb dL_law_430 (by decide) ?_
                obtain ⟨v455, h456, hf⟩ := kBind hf
                refine kgoR (krunV (wc := (wX3 cI a0 a1 a2 a3 a4 a5 a6 a7 a8 a9 a10 a11 v438.2.1 R2 v438.2.2.1 v438.2.2.2.1 v438.2.2.2.2 TB LN PS TC TW TG CM)) (As := [.int y5, .int (0 : Int32)]) (rest := []) (ci := 3) hx hb hml hown hts hK (kX3_note l D cI a0 a1 a2 a3 a4 a5 a6 a7 a8 a9 a10 a11 v438.2.1 R2 v438.2.2.1 v438.2.2.2.1 v438.2.2.2.2 TB LN PS TC TW TG CM y5 (0 : Int32) v455 h456) gL_law_X3_note rfl rfl rfl hdX3_note ⟨Nat.le_of_ble_eq_true rfl, Nat.le_of_ble_eq_true rfl⟩ hP hD rfl rfl rfl rfl hl.1 rfl (Nat.le_of_ble_eq_true rfl) dL_law_431 ⟨Nat.le_of_ble_eq_true rfl, Nat.le_of_ble_eq_true rfl⟩) hP hD hS hA [0, 1, 2, 3, 4, 5, 6, 7, 8, 9, 10, 11] rfl (fun H locs hP hS => ?_)
                refine lv_aload_n hx hb dL_law_434 rfl (lv_at hl 8 rfl) ?_
                obtain ⟨v457, h458, hf⟩ := kBind hf
                refine kgoR (krunV (wc := (wX3 cI a0 a1 a2 a3 a4 a5 a6 a7 a8 a9 a10 a11 v438.2.1 R2 v438.2.2.1 v438.2.2.2.1 v438.2.2.2.2 TB LN PS TC TW TG CM)) (As := []) (rest := [.int v455]) (ci := 3) hx hb hml hown hts hK (kX3_time l D cI a0 a1 a2 a3 a4 a5 a6 a7 a8 a9 a10 a11 v438.2.1 R2 v438.2.2.1 v438.2.2.2.1 v438.2.2.2.2 TB LN PS TC TW TG CM v457 h458) gL_law_X3_time rfl rfl rfl hdX3_time ⟨Nat.le_of_ble_eq_true rfl, Nat.le_of_ble_eq_true rfl⟩ hP hD rfl rfl rfl rfl hl.1 rfl (Nat.le_of_ble_eq_true rfl) dL_law_435 ⟨Nat.le_of_ble_eq_true rfl, Nat.le_of_ble_eq_true rfl⟩) hP hD hS hA [0, 1, 2, 3, 4, 5, 6, 7, 8, 9, 10, 11] rfl (fun H locs hP hS => ?_)
                refine lv_icmp_ne (tgt := 479) hx hb dL_law_438 (by decide) (fun c459 => ?_) (fun c459 => ?_)
                · have hf := kIfF c459 hf
                  refine lv_iconst (v := (0 : Int32)) hx hb dL_law_479 (by decide) ?_
                  have he := Option.some.inj hf
                  have he := hO1 _ he.symm
                  exact absurd he (by decide)
                · have hf := kIfT c459 hf
                  refine lv_aload_n hx hb dL_law_441 rfl (lv_at hl 8 rfl) ?_
                  refine lv_iload hx hb dL_law_442 (lv_at hl 4 rfl) ?_
                  refine lv_iconst (v := (1 : Int32)) hx hb dL_law_444 (by decide) ?_
                  obtain ⟨v460, h461, hf⟩ := kBind hf
                  refine kgoR (krunV (wc := (wX3 cI a0 a1 a2 a3 a4 a5 a6 a7 a8 a9 a10 a11 v438.2.1 R2 v438.2.2.1 v438.2.2.2.1 v438.2.2.2.2 TB LN PS TC TW TG CM)) (As := [.int y5, .int (1 : Int32)]) (rest := []) (ci := 3) hx hb hml hown hts hK (kX3_note l D cI a0 a1 a2 a3 a4 a5 a6 a7 a8 a9 a10 a11 v438.2.1 R2 v438.2.2.1 v438.2.2.2.1 v438.2.2.2.2 TB LN PS TC TW TG CM y5 (1 : Int32) v460 h461) gL_law_X3_note rfl rfl rfl hdX3_note ⟨Nat.le_of_ble_eq_true rfl, Nat.le_of_ble_eq_true rfl⟩ hP hD rfl rfl rfl rfl hl.1 rfl (Nat.le_of_ble_eq_true rfl) dL_law_445 ⟨Nat.le_of_ble_eq_true rfl, Nat.le_of_ble_eq_true rfl⟩) hP hD hS hA [0, 1, 2, 3, 4, 5, 6, 7, 8, 9, 10, 11] rfl (fun H locs hP hS => ?_)
                  refine lv_iload hx hb dL_law_448 (lv_at hl 5 rfl) ?_
                  refine lv_icmp_ne (tgt := 479) hx hb dL_law_450 (by decide) (fun c462 => ?_) (fun c462 => ?_)
                  · have hf := kIfF c462 hf
                    refine lv_iconst (v := (0 : Int32)) hx hb dL_law_479 (by decide) ?_
                    have he := Option.some.inj hf
                    have he := hO1 _ he.symm
                    exact absurd he (by decide)
                  · have hf := kIfT c462 hf
                    refine lv_aload_n hx hb dL_law_453 rfl (lv_at hl 8 rfl) ?_
                    refine lv_iload hx hb dL_law_454 (lv_at hl 4 rfl) ?_
                    refine lv_iconst (v := (2 : Int32)) hx hb dL_law_456 (by decide) ?_
                    obtain ⟨v463, h464, hf⟩ := kBind hf
                    refine kgoR (krunV (wc := (wX3 cI a0 a1 a2 a3 a4 a5 a6 a7 a8 a9 a10 a11 v438.2.1 R2 v438.2.2.1 v438.2.2.2.1 v438.2.2.2.2 TB LN PS TC TW TG CM)) (As := [.int y5, .int (2 : Int32)]) (rest := []) (ci := 3) hx hb hml hown hts hK (kX3_note l D cI a0 a1 a2 a3 a4 a5 a6 a7 a8 a9 a10 a11 v438.2.1 R2 v438.2.2.1 v438.2.2.2.1 v438.2.2.2.2 TB LN PS TC TW TG CM y5 (2 : Int32) v463 h464) gL_law_X3_note rfl rfl rfl hdX3_note ⟨Nat.le_of_ble_eq_true rfl, Nat.le_of_ble_eq_true rfl⟩ hP hD rfl rfl rfl rfl hl.1 rfl (Nat.le_of_ble_eq_true rfl) dL_law_457 ⟨Nat.le_of_ble_eq_true rfl, Nat.le_of_ble_eq_true rfl⟩) hP hD hS hA [0, 1, 2, 3, 4, 5, 6, 7, 8, 9, 10, 11] rfl (fun H locs hP hS => ?_)
                    refine lv_iconst (v := (1 : Int32)) hx hb dL_law_460 (by decide) ?_
                    refine lv_iload hx hb dL_law_461 (lv_at hl 5 rfl) ?_
                    refine lv_iadd hx hb dL_law_463 ?_
                    refine lv_icmp_ne (tgt := 479) hx hb dL_law_464 (by decide) (fun c465 => ?_) (fun c465 => ?_)
                    · have hf := kIfF c465 hf
                      refine lv_iconst (v := (0 : Int32)) hx hb dL_law_479 (by decide) ?_
                      have he := Option.some.inj hf
                      have he := hO1 _ he.symm
                      exact absurd he (by decide)
                    · have hf := kIfT c465 hf
                      refine lv_aload_n hx hb dL_law_467 rfl (lv_at hl 8 rfl) ?_
                      refine lv_iload hx hb dL_law_468 (lv_at hl 4 rfl) ?_
                      refine lv_iconst (v := (3 : Int32)) hx hb dL_law_470 (by decide) ?_
                      obtain ⟨v466, h467, hf⟩ := kBind hf
                      refine kgoR (krunV (wc := (wX3 cI a0 a1 a2 a3 a4 a5 a6 a7 a8 a9 a10 a11 v438.2.1 R2 v438.2.2.1 v438.2.2.2.1 v438.2.2.2.2 TB LN PS TC TW TG CM)) (As := [.int y5, .int (3 : Int32)]) (rest := []) (ci := 3) hx hb hml hown hts hK (kX3_note l D cI a0 a1 a2 a3 a4 a5 a6 a7 a8 a9 a10 a11 v438.2.1 R2 v438.2.2.1 v438.2.2.2.1 v438.2.2.2.2 TB LN PS TC TW TG CM y5 (3 : Int32) v466 h467) gL_law_X3_note rfl rfl rfl hdX3_note ⟨Nat.le_of_ble_eq_true rfl, Nat.le_of_ble_eq_true rfl⟩ hP hD rfl rfl rfl rfl hl.1 rfl (Nat.le_of_ble_eq_true rfl) dL_law_471 ⟨Nat.le_of_ble_eq_true rfl, Nat.le_of_ble_eq_true rfl⟩) hP hD hS hA [0, 1, 2, 3, 4, 5, 6, 7, 8, 9, 10, 11] rfl (fun H locs hP hS => ?_)
                      refine lv_iload hx hb dL_law_474 (lv_at hl 0 rfl) ?_
                      refine lv_icmp_eq (tgt := 481) hx hb dL_law_476 (by decide) (fun c468 => ?_) (fun c468 => ?_)
                      · have hf := kIfT c468 hf
                        exact hJ481 v438.2.1 v438.2.2.1 v438.2.2.2.1 v438.2.2.2.2 v438.1 (jrem ((v434 + v436) + (36 : Int32)) (36 : Int32)) v432 y6 y5 y4 hf H locs ls hP hD hS (lv_sub hl [0, 1, 2, 3, 4, 5, 6, 7, 8, 9] rfl)
                      · have hf := kIfF c468 hf
                        refine lv_iconst (v := (0 : Int32)) hx hb dL_law_479 (by decide) ?_
                        have he := Option.some.inj hf
                        have he := hO1 _ he.symm
                        exact absurd he (by decide)
      · have hf := kIfT c440 hf
        refine lv_iload hx hb dL_law_358 (lv_at hl 0 rfl) ?_
        refine lv_bipush (v := (-103 : Int32)) hx hb dL_law_360 (by decide) ?_
        refine lv_icmp_ne (tgt := 374) hx hb dL_law_362 (by decide) (fun c469 => ?_) (fun c469 => ?_)
        · have hf := kIfF c469 hf
          refine lv_iconst (v := (0 : Int32)) hx hb dL_law_374 (by decide) ?_
          have he := Option.some.inj hf
          have he := hO1 _ he.symm
          exact absurd he (by decide)
        · have hf := kIfT c469 hf
          refine lv_aload_n hx hb dL_law_365 rfl (lv_at hl 8 rfl) ?_
          obtain ⟨v470, h471, hf⟩ := kBind hf
          refine kgoR (krunV (wc := (wX3 cI a0 a1 a2 a3 a4 a5 a6 a7 a8 a9 a10 a11 v438.2.1 R2 v438.2.2.1 v438.2.2.2.1 v438.2.2.2.2 TB LN PS TC TW TG CM)) (As := []) (rest := []) (ci := 3) hx hb hml hown hts hK (kX3_notes l D cI a0 a1 a2 a3 a4 a5 a6 a7 a8 a9 a10 a11 v438.2.1 R2 v438.2.2.1 v438.2.2.2.1 v438.2.2.2.2 TB LN PS TC TW TG CM v470 h471) gL_law_X3_notes rfl rfl rfl hdX3_notes ⟨Nat.le_of_ble_eq_true rfl, Nat.le_of_ble_eq_true rfl⟩ hP hD rfl rfl rfl rfl hl.1 rfl (Nat.le_of_ble_eq_true rfl) dL_law_366 ⟨Nat.le_of_ble_eq_true rfl, Nat.le_of_ble_eq_true rfl⟩) hP hD hS hA [0, 1, 2, 3, 4, 5, 6, 7, 8, 9, 10, 11] rfl (fun H locs hP hS => ?_)
          refine lv_iload hx hb dL_law_369 (lv_at hl 4 rfl) ?_
          refine lv_icmp_eq (tgt := 481) hx hb dL_law_371 (by decide) (fun c472 => ?_) (fun c472 => ?_)
          · have hf := kIfT c472 hf
            exact hJ481 v438.2.1 v438.2.2.1 v438.2.2.2.1 v438.2.2.2.2 v438.1 (jrem ((v434 + v436) + (36 : Int32)) (36 : Int32)) v432 y6 y5 y4 hf H locs ls hP hD hS (lv_sub hl [0, 1, 2, 3, 4, 5, 6, 7, 8, 9] rfl)
          · have hf := kIfF c472 hf
            refine lv_iconst (v := (0 : Int32)) hx hb dL_law_374 (by decide) ?_
            have he := Option.some.inj hf
            have he := hO1 _ he.symm
            exact absurd he (by decide)
    have hP : va_P D vwCl (wX3 cI a0 a1 a2 a3 a4 a5 a6 a7 a8 a9 a10 a11 t272.1 R2 t272.2.1 t272.2.2.1 t272.2.2.2.1 TB LN PS TC TW TG CM) H := hP
    have hD : va_D A (wX3 cI a0 a1 a2 a3 a4 a5 a6 a7 a8 a9 a10 a11 t272.1 R2 t272.2.1 t272.2.2.1 t272.2.2.2.1 TB LN PS TC TW TG CM) := hD
    have hl : lv_has ls 10 [(4, .int t272.2.2.2.2), (3, .int y3), (2, .int y2), (1, .ref a0), (0, .ref b)] := hl
    refine lv_iload hx hb dL_law_272 (lv_at hl 0 rfl) ?_
    refine lv_iload_n hx hb dL_law_274 rfl (lv_at hl 1 rfl) ?_
    refine lv_icmp_ge (tgt := 497) hx hb dL_law_275 (by decide) (fun c473 => ?_) (fun c473 => ?_)
    · have hf := kIfT c473 hf
      obtain ⟨r_, hf, he⟩ := kBind hf
      have he := (Option.some.inj he).symm
      have he := hO1 _ he
      rw [he] at hf
      exact hJ497 t272.1 R2 t272.2.1 t272.2.2.1 t272.2.2.2.1 PS TC TW TG CM t272.2.2.2.2 y3 y2 hf H locs ls hP hD hS (lv_sub hl [0, 1, 2, 3, 4] rfl)
    · have hf := kIfF c473 hf
      refine lv_aload_n hx hb dL_law_278 rfl (lv_at hl 3 rfl) ?_
      obtain ⟨v474, h475, hf⟩ := kBind hf
      refine kgoR (krunV (wc := (wX3 cI a0 a1 a2 a3 a4 a5 a6 a7 a8 a9 a10 a11 t272.1 R2 t272.2.1 t272.2.2.1 t272.2.2.2.1 TB LN PS TC TW TG CM)) (As := []) (rest := []) (ci := 3) hx hb hml hown hts hK (kX3_notes l D cI a0 a1 a2 a3 a4 a5 a6 a7 a8 a9 a10 a11 t272.1 R2 t272.2.1 t272.2.2.1 t272.2.2.2.1 TB LN PS TC TW TG CM v474 h475) gL_law_X3_notes rfl rfl rfl hdX3_notes ⟨Nat.le_of_ble_eq_true rfl, Nat.le_of_ble_eq_true rfl⟩ hP hD rfl rfl rfl rfl hl.1 rfl (Nat.le_of_ble_eq_true rfl) dL_law_279 ⟨Nat.le_of_ble_eq_true rfl, Nat.le_of_ble_eq_true rfl⟩) hP hD hS hA [0, 1, 2, 3, 4, 5, 6, 7, 8, 9, 10, 11] rfl (fun H locs hP hS => ?_)
      refine lv_istore (lv' := [(5, .int v474), (4, .int t272.2.2.2.2), (3, .int y3), (2, .int y2), (1, .ref a0), (0, .ref b)]) hx hb dL_law_282 hl (by decide) rfl (fun ls hl => ?_)
      refine lv_aload_n hx hb dL_law_284 rfl (lv_at hl 4 rfl) ?_
      refine lv_iload hx hb dL_law_285 (lv_at hl 1 rfl) ?_
      obtain ⟨v476, h477, hf⟩ := kBind hf
      refine kgoR (krunS (wc := (wX3 cI a0 a1 a2 a3 a4 a5 a6 a7 a8 a9 a10 a11 t272.1 R2 t272.2.1 t272.2.2.1 t272.2.2.2.1 TB LN PS TC TW TG CM)) (As := [.ref a0, .int t272.2.2.2.2]) (rest := []) hx hb hml hown hts hK (kL_hasTarget l D cI fu a0 a1 a2 a3 a4 a5 a6 a7 a8 a9 a10 a11 t272.1 R2 t272.2.1 t272.2.2.1 t272.2.2.2.1 TB LN PS TC TW TG CM t272.2.2.2.2 v476 h477) gL_law_L_hasTarget rfl rfl rfl hdL_hasTarget ⟨Nat.le_of_ble_eq_true rfl, Nat.le_of_ble_eq_true rfl⟩ hP hD rfl hl.1 rfl (Nat.le_of_ble_eq_true rfl) dL_law_287 ⟨Nat.le_of_ble_eq_true rfl, Nat.le_of_ble_eq_true rfl⟩) hP hD hS hA [0, 1, 2, 3, 4, 5, 6, 7, 8, 9, 10, 11] rfl (fun H locs hP hS => ?_)
      refine kif_eqb (tgt := 307) hx hb dL_law_290 (by decide) (fun c478 => ?_) (fun c478 => ?_)
      · have hf := kIfF c478 hf
        refine lv_iconst (v := (0 : Int32)) hx hb dL_law_307 (by decide) ?_
        refine lv_istore (lv' := [(6, .int (0 : Int32)), (5, .int v474), (4, .int t272.2.2.2.2), (3, .int y3), (2, .int y2), (1, .ref a0), (0, .ref b)]) hx hb dL_law_308 hl (by decide) rfl (fun ls hl => ?_)
        exact hJ310 t272.1 t272.2.1 t272.2.2.1 t272.2.2.2.1 (0 : Int32) v474 t272.2.2.2.2 hf H locs ls hP hD hS (lv_sub hl [0, 1, 2, 3, 4, 5, 6] rfl)
      · have hf := kIfT c478 hf
        refine lv_aload_n hx hb dL_law_293 rfl (lv_at hl 4 rfl) ?_
        refine lv_iload hx hb dL_law_294 (lv_at hl 1 rfl) ?_
        refine lv_iconst (v := (5 : Int32)) hx hb dL_law_296 (by decide) ?_
        obtain ⟨v479, h480, hf⟩ := kBind hf
        refine kgoR (krunV (wc := (wX3 cI a0 a1 a2 a3 a4 a5 a6 a7 a8 a9 a10 a11 t272.1 R2 t272.2.1 t272.2.2.1 t272.2.2.2.1 TB LN PS TC TW TG CM)) (As := [.int t272.2.2.2.2, .int (5 : Int32)]) (rest := []) (ci := 3) hx hb hml hown hts hK (kX3_crane l D cI fu a0 a1 a2 a3 a4 a5 a6 a7 a8 a9 a10 a11 t272.1 R2 t272.2.1 t272.2.2.1 t272.2.2.2.1 TB LN PS TC TW TG CM t272.2.2.2.2 (5 : Int32) v479 h480) gL_law_X3_crane rfl rfl rfl hdX3_crane ⟨Nat.le_of_ble_eq_true rfl, Nat.le_of_ble_eq_true rfl⟩ hP hD rfl rfl rfl rfl hl.1 rfl (Nat.le_of_ble_eq_true rfl) dL_law_297 ⟨Nat.le_of_ble_eq_true rfl, Nat.le_of_ble_eq_true rfl⟩) hP hD hS hA [0, 1, 2, 3, 4, 5, 6, 7, 8, 9, 10, 11] rfl (fun H locs hP hS => ?_)
        refine lv_if_ne (tgt := 307) hx hb dL_law_300 (by decide) (fun c481 => ?_) (fun c481 => ?_)
        · have hf := kIfF c481 hf
          refine lv_iconst (v := (0 : Int32)) hx hb dL_law_307 (by decide) ?_
          refine lv_istore (lv' := [(6, .int (0 : Int32)), (5, .int v474), (4, .int t272.2.2.2.2), (3, .int y3), (2, .int y2), (1, .ref a0), (0, .ref b)]) hx hb dL_law_308 hl (by decide) rfl (fun ls hl => ?_)
          exact hJ310 t272.1 t272.2.1 t272.2.2.1 t272.2.2.2.1 (0 : Int32) v474 t272.2.2.2.2 hf H locs ls hP hD hS (lv_sub hl [0, 1, 2, 3, 4, 5, 6] rfl)
        · have hf := kIfT c481 hf
          refine lv_iconst (v := (1 : Int32)) hx hb dL_law_303 (by decide) ?_
          refine lv_goto (tgt := 308) hx hb dL_law_304 (by decide) ?_
          refine lv_istore (lv' := [(6, .int (1 : Int32)), (5, .int v474), (4, .int t272.2.2.2.2), (3, .int y3), (2, .int y2), (1, .ref a0), (0, .ref b)]) hx hb dL_law_308 hl (by decide) rfl (fun ls hl => ?_)
          exact hJ310 t272.1 t272.2.1 t272.2.2.1 t272.2.2.2.1 (1 : Int32) v474 t272.2.2.2.2 hf H locs ls hP hD hS (lv_sub hl [0, 1, 2, 3, 4, 5, 6] rfl)
  refine kcut (D := D) (A := A) (fun K => ∀ (R : (Nat → Int32)) (R2 : (Nat → Int32)) (HR : (Nat → Int32)) (HS : Int32) (HN : Int32) (PS : Int32) (TC : (Nat → Int32)) (TW : (Nat → Int32)) (TG : (Nat → Int32)) (CM : Int32) (y4 : Int32) (y3 : Int32) (y2 : Int32), fL_law_J138 fu L xs R R2 HR HS HN y3 y2 = some true → K (wX3 cI a0 a1 a2 a3 a4 a5 a6 a7 a8 a9 a10 a11 R R2 HR HS HN TB LN PS TC TW TG CM) 10 [(4, .int y4), (3, .int y3), (2, .int y2), (1, .ref a0), (0, .ref b)] 138) ?_ (fun hJ138 => ?_)
  · intro R R2 HR HS HN PS TC TW TG CM y4 y3 y2 hf H locs ls hP hD hS hl
    unfold fL_law_J138 at hf
    have hP : va_P D vwCl (wX3 cI a0 a1 a2 a3 a4 a5 a6 a7 a8 a9 a10 a11 R R2 HR HS HN TB LN PS TC TW TG CM) H := hP
    have hD : va_D A (wX3 cI a0 a1 a2 a3 a4 a5 a6 a7 a8 a9 a10 a11 R R2 HR HS HN TB LN PS TC TW TG CM) := hD
    have hl : lv_has ls 10 [(4, .int y4), (3, .int y3), (2, .int y2), (1, .ref a0), (0, .ref b)] := hl
    refine lv_iconst (v := (0 : Int32)) hx hb dL_law_138 (by decide) ?_
    refine lv_istore (lv' := [(4, .int (0 : Int32)), (3, .int y3), (2, .int y2), (1, .ref a0), (0, .ref b)]) hx hb dL_law_139 hl (by decide) rfl (fun ls hl => ?_)
    have hl : lv_has ls 10 [(4, .int (0 : Int32)), (3, .int y3), (2, .int y2), (1, .ref a0), (0, .ref b)] := hl
    refine klp hf (fun t141 : (Nat → Int32) × (Nat → Int32) × (Nat → Int32) × Int32 × Int32 × Int32 => (wX3 cI a0 a1 a2 a3 a4 a5 a6 a7 a8 a9 a10 a11 t141.1 t141.2.1 t141.2.2.1 t141.2.2.2.1 t141.2.2.2.2.1 TB LN PS TC TW TG CM)) 10 (fun t141 : (Nat → Int32) × (Nat → Int32) × (Nat → Int32) × Int32 × Int32 × Int32 => [(4, .int t141.2.2.2.2.2), (3, .int y3), (2, .int y2), (1, .ref a0), (0, .ref b)]) ?_ hP hD hS hl
    intro t141 x141_ hf hI1 hO1 H locs ls hP hD hS hl
    unfold fL_law_L141 at hf
    refine kcut (D := D) (A := A) (fun K => ∀ (R : (Nat → Int32)) (R2 : (Nat → Int32)) (HR : (Nat → Int32)) (HS : Int32) (HN : Int32) (y8 : Int32) (y6 : Int64) (y5 : Int32) (y4 : Int32), fL_law_J227 fu R R2 HR HS HN y5 y4 = some x141_ → K (wX3 cI a0 a1 a2 a3 a4 a5 a6 a7 a8 a9 a10 a11 R R2 HR HS HN TB LN PS TC TW TG CM) 10 [(8, .int y8), (6, .long y6), (5, .int y5), (4, .int y4), (3, .int y3), (2, .int y2), (1, .ref a0), (0, .ref b)] 227) ?_ (fun hJ227 => ?_)
    · intro R R2 HR HS HN y8 y6 y5 y4 hf H locs ls hP hD hS hl
      unfold fL_law_J227 at hf
      have hP : va_P D vwCl (wX3 cI a0 a1 a2 a3 a4 a5 a6 a7 a8 a9 a10 a11 R R2 HR HS HN TB LN PS TC TW TG CM) H := hP
      have hD : va_D A (wX3 cI a0 a1 a2 a3 a4 a5 a6 a7 a8 a9 a10 a11 R R2 HR HS HN TB LN PS TC TW TG CM) := hD
      have hl : lv_has ls 10 [(8, .int y8), (6, .long y6), (5, .int y5), (4, .int y4), (3, .int y3), (2, .int y2), (1, .ref a0), (0, .ref b)] := hl
      refine lv_aload_n hx hb dL_law_227 rfl (lv_at hl 6 rfl) ?_
      refine lv_iconst (v := (0 : Int32)) hx hb dL_law_228 (by decide) ?_
      obtain ⟨v482, h483, hf⟩ := kBind hf
      refine kgoR (krunS (wc := (wX3 cI a0 a1 a2 a3 a4 a5 a6 a7 a8 a9 a10 a11 R R2 HR HS HN TB LN PS TC TW TG CM)) (As := [.ref a0, .int (bI false)]) (rest := []) hx hb hml hown hts hK (kL_isSound l D cI fu a0 a1 a2 a3 a4 a5 a6 a7 a8 a9 a10 a11 R R2 HR HS HN TB LN PS TC TW TG CM false v482 h483) gL_law_L_isSound rfl rfl rfl hdL_isSound ⟨Nat.le_of_ble_eq_true rfl, Nat.le_of_ble_eq_true rfl⟩ hP hD rfl hl.1 rfl (Nat.le_of_ble_eq_true rfl) dL_law_229 ⟨Nat.le_of_ble_eq_true rfl, Nat.le_of_ble_eq_true rfl⟩) hP hD hS hA [0, 1, 2, 3, 4, 5, 6, 7, 8, 9, 10, 11] rfl (fun H locs hP hS => ?_)
      refine kif_eqb (tgt := 261) hx hb dL_law_232 (by decide) (fun c484 => ?_) (fun c484 => ?_)
      · have hf := kIfF c484 hf
        refine lv_iconst (v := (0 : Int32)) hx hb dL_law_261 (by decide) ?_
        have he := Option.some.inj hf
        have he := hO1 _ he.symm
        exact absurd he (by decide)
      · have hf := kIfT c484 hf
        refine lv_iload hx hb dL_law_235 (lv_at hl 3 rfl) ?_
        refine lv_iconst (v := (5 : Int32)) hx hb dL_law_237 (by decide) ?_
        refine kirem hx hb dL_law_238 (by decide) ?_
        refine lv_iconst (v := (4 : Int32)) hx hb dL_law_239 (by decide) ?_
        refine lv_icmp_ne (tgt := 263) hx hb dL_law_240 (by decide) (fun c485 => ?_) (fun c485 => ?_)
        · have hf := kIfF c485 hf
          refine lv_iinc (v := y4 + (1 : Int32)) (lv' := [(4, .int (y4 + (1 : Int32))), (8, .int y8), (6, .long y6), (5, .int y5), (3, .int y3), (2, .int y2), (1, .ref a0), (0, .ref b)]) hx hb dL_law_263 hl (k := 3) rfl rfl (by decide) rfl (fun ls hl => ?_)
          refine lv_goto (tgt := 141) hx hb dL_law_266 (by decide) ?_
          obtain ⟨z486, hz486⟩ : ∃ z : Int32, z = y4 + (1 : Int32) := ⟨_, rfl⟩
          rw [← hz486] at hf
          have he := (Option.some.inj hf).symm
          have hl : lv_has ls 10 [(4, .int z486), (3, .int y3), (2, .int y2), (1, .ref a0), (0, .ref b)] := by rw [hz486]; exact lv_sub hl [0, 4, 5, 6, 7] rfl
          exact hI1 _ he H locs ls hP hD hS hl
        · have hf := kIfT c485 hf
          refine lv_aload_n hx hb dL_law_243 rfl (lv_at hl 6 rfl) ?_
          refine lv_iconst (v := (1 : Int32)) hx hb dL_law_244 (by decide) ?_
          refine lv_iload hx hb dL_law_245 (lv_at hl 2 rfl) ?_
          refine lv_iconst (v := (5 : Int32)) hx hb dL_law_247 (by decide) ?_
          refine kishr hx hb dL_law_248 ?_
          refine lv_bipush (v := (40 : Int32)) hx hb dL_law_249 (by decide) ?_
          obtain ⟨v487, h488, hf⟩ := kBind hf
          refine kgoR (krunS (wc := ([] : va_W)) (As := [.int (jshr y5 (5 : Int32)), .int (40 : Int32)]) (rest := [.int (1 : Int32), .ref a0]) hx hb hml hown hts hK (kL_low l D cI (jshr y5 (5 : Int32)) (40 : Int32) v487 h488) gL_law_L_low rfl rfl rfl hdL_low ⟨Nat.le_of_ble_eq_true rfl, Nat.le_of_ble_eq_true rfl⟩ k_P0 (k_D0 A) rfl hl.1 rfl (Nat.le_of_ble_eq_true rfl) dL_law_251 ⟨Nat.le_of_ble_eq_true rfl, Nat.le_of_ble_eq_true rfl⟩) hP hD hS hA [] rfl (fun H locs hP hS => ?_)
          refine lv_iadd hx hb dL_law_254 ?_
          obtain ⟨v489, h490, hf⟩ := kBind hf
          refine kgoA (krunS (wc := (wX3 cI a0 a1 a2 a3 a4 a5 a6 a7 a8 a9 a10 a11 R R2 HR HS HN TB LN PS TC TW TG CM)) (As := [.ref a0, .int ((1 : Int32) + v487)]) (rest := []) hx hb hml hown hts hK (kL_isForetold l D cI fu a0 a1 a2 a3 a4 a5 a6 a7 a8 a9 a10 a11 R R2 HR HS HN TB LN PS TC TW TG CM ((1 : Int32) + v487) v489 h490) gL_law_L_isForetold rfl rfl rfl hdL_isForetold ⟨Nat.le_of_ble_eq_true rfl, Nat.le_of_ble_eq_true rfl⟩ hP hD rfl hl.1 rfl (Nat.le_of_ble_eq_true rfl) dL_law_255 ⟨Nat.le_of_ble_eq_true rfl, Nat.le_of_ble_eq_true rfl⟩) hD hS hA (fun H locs hP hD hS => ?_)
          refine kif_neb (tgt := 263) hx hb dL_law_258 (by decide) (fun c491 => ?_) (fun c491 => ?_)
          · have hf := kIfT c491 hf
            refine lv_iinc (v := y4 + (1 : Int32)) (lv' := [(4, .int (y4 + (1 : Int32))), (8, .int y8), (6, .long y6), (5, .int y5), (3, .int y3), (2, .int y2), (1, .ref a0), (0, .ref b)]) hx hb dL_law_263 hl (k := 3) rfl rfl (by decide) rfl (fun ls hl => ?_)
            refine lv_goto (tgt := 141) hx hb dL_law_266 (by decide) ?_
            obtain ⟨z492, hz492⟩ : ∃ z : Int32, z = y4 + (1 : Int32) := ⟨_, rfl⟩
            rw [← hz492] at hf
            have he := (Option.some.inj hf).symm
            have hl : lv_has ls 10 [(4, .int z492), (3, .int y3), (2, .int y2), (1, .ref a0), (0, .ref b)] := by rw [hz492]; exact lv_sub hl [0, 4, 5, 6, 7] rfl
            exact hI1 _ he H locs ls hP hD hS hl
          · have hf := kIfF c491 hf
            refine lv_iconst (v := (0 : Int32)) hx hb dL_law_261 (by decide) ?_
            have he := Option.some.inj hf
            have he := hO1 _ he.symm
            exact absurd he (by decide)
    refine kcut (D := D) (A := A) (fun K => ∀ (R : (Nat → Int32)) (R2 : (Nat → Int32)) (HR : (Nat → Int32)) (HS : Int32) (HN : Int32) (y8 : Int32) (y6 : Int64) (y5 : Int32) (y4 : Int32), fL_law_J191 fu R R2 HR HS HN y8 y6 y5 y4 = some x141_ → K (wX3 cI a0 a1 a2 a3 a4 a5 a6 a7 a8 a9 a10 a11 R R2 HR HS HN TB LN PS TC TW TG CM) 10 [(8, .int y8), (6, .long y6), (5, .int y5), (4, .int y4), (3, .int y3), (2, .int y2), (1, .ref a0), (0, .ref b)] 191) ?_ (fun hJ191 => ?_)
    · intro R R2 HR HS HN y8 y6 y5 y4 hf H locs ls hP hD hS hl
      unfold fL_law_J191 at hf
      have hP : va_P D vwCl (wX3 cI a0 a1 a2 a3 a4 a5 a6 a7 a8 a9 a10 a11 R R2 HR HS HN TB LN PS TC TW TG CM) H := hP
      have hD : va_D A (wX3 cI a0 a1 a2 a3 a4 a5 a6 a7 a8 a9 a10 a11 R R2 HR HS HN TB LN PS TC TW TG CM) := hD
      have hl : lv_has ls 10 [(8, .int y8), (6, .long y6), (5, .int y5), (4, .int y4), (3, .int y3), (2, .int y2), (1, .ref a0), (0, .ref b)] := hl
      refine lv_iload hx hb dL_law_191 (lv_at hl 0 rfl) ?_
      refine lv_bipush (v := (-100 : Int32)) hx hb dL_law_193 (by decide) ?_
      refine lv_icmp_lt (tgt := 227) hx hb dL_law_195 (by decide) (fun c493 => ?_) (fun c493 => ?_)
      · have hf := kIfT c493 hf
        exact hJ227 R R2 HR HS HN y8 y6 y5 y4 hf H locs ls hP hD hS (lv_sub hl [0, 1, 2, 3, 4, 5, 6, 7] rfl)
      · have hf := kIfF c493 hf
        refine lv_iload hx hb dL_law_198 (lv_at hl 2 rfl) ?_
        refine lv_bipush (v := (27 : Int32)) hx hb dL_law_200 (by decide) ?_
        refine kishr hx hb dL_law_202 ?_
        refine lv_iconst (v := (3 : Int32)) hx hb dL_law_203 (by decide) ?_
        refine lv_iand hx hb dL_law_204 ?_
        refine lv_if_ne (tgt := 227) hx hb dL_law_205 (by decide) (fun c494 => ?_) (fun c494 => ?_)
        · have hf := kIfF c494 hf
          exact hJ227 R R2 HR HS HN y8 y6 y5 y4 hf H locs ls hP hD hS (lv_sub hl [0, 1, 2, 3, 4, 5, 6, 7] rfl)
        · have hf := kIfT c494 hf
          refine lv_aload_n hx hb dL_law_208 rfl (lv_at hl 6 rfl) ?_
          obtain ⟨v495, h496, hf⟩ := kBind hf
          refine kgoA (krunV (wc := (wX3 cI a0 a1 a2 a3 a4 a5 a6 a7 a8 a9 a10 a11 R R2 HR HS HN TB LN PS TC TW TG CM)) (As := []) (rest := []) (ci := 3) hx hb hml hown hts hK (kX3_undo l D cI a0 a1 a2 a3 a4 a5 a6 a7 a8 a9 a10 a11 R R2 HR HS HN TB LN PS TC TW TG CM v495 h496) gL_law_X3_undo rfl rfl rfl hdX3_undo ⟨Nat.le_of_ble_eq_true rfl, Nat.le_of_ble_eq_true rfl⟩ hP hD rfl rfl rfl rfl hl.1 rfl (Nat.le_of_ble_eq_true rfl) dL_law_209 ⟨Nat.le_of_ble_eq_true rfl, Nat.le_of_ble_eq_true rfl⟩) hD hS hA (fun H locs hP hD hS => ?_)
          refine lv_if_lt (tgt := 225) hx hb dL_law_212 (by decide) (fun c497 => ?_) (fun c497 => ?_)
          · have hf := kIfT c497 hf
            refine lv_iconst (v := (0 : Int32)) hx hb dL_law_225 (by decide) ?_
            have he := Option.some.inj hf
            have he := hO1 _ he.symm
            exact absurd he (by decide)
          · have hf := kIfF c497 hf
            refine lv_aload_n hx hb dL_law_215 rfl (lv_at hl 6 rfl) ?_
            obtain ⟨v498, h499, hf⟩ := kBind hf
            refine kgoR (krunV (wc := (wX3 cI a0 a1 a2 a3 a4 a5 a6 a7 a8 a9 a10 a11 v495.2.1 R2 HR v495.2.2.1 v495.2.2.2 TB LN PS TC TW TG CM)) (As := []) (rest := []) (ci := 3) hx hb hml hown hts hK (kX3_digest l D cI fu a0 a1 a2 a3 a4 a5 a6 a7 a8 a9 a10 a11 v495.2.1 R2 HR v495.2.2.1 v495.2.2.2 TB LN PS TC TW TG CM v498 h499) gL_law_X3_digest rfl rfl rfl hdX3_digest ⟨Nat.le_of_ble_eq_true rfl, Nat.le_of_ble_eq_true rfl⟩ hP hD rfl rfl rfl rfl hl.1 rfl (Nat.le_of_ble_eq_true rfl) dL_law_216 ⟨Nat.le_of_ble_eq_true rfl, Nat.le_of_ble_eq_true rfl⟩) hP hD hS hA [0, 1, 2, 3, 4, 5, 6, 7, 8, 9, 10, 11] rfl (fun H locs hP hS => ?_)
            refine lv_lload hx hb dL_law_219 (lv_at hl 1 rfl) ?_
            refine W.lcmp hx hb dL_law_221 ?_
            refine lv_if_eq (tgt := 227) hx hb dL_law_222 (by decide) (fun c500 => ?_) (fun c500 => ?_)
            · have hf := kIfT c500 hf
              exact hJ227 v495.2.1 R2 HR v495.2.2.1 v495.2.2.2 y8 y6 y5 y4 hf H locs ls hP hD hS (lv_sub hl [0, 1, 2, 3, 4, 5, 6, 7] rfl)
            · have hf := kIfF c500 hf
              refine lv_iconst (v := (0 : Int32)) hx hb dL_law_225 (by decide) ?_
              have he := Option.some.inj hf
              have he := hO1 _ he.symm
              exact absurd he (by decide)
    have hP : va_P D vwCl (wX3 cI a0 a1 a2 a3 a4 a5 a6 a7 a8 a9 a10 a11 t141.1 t141.2.1 t141.2.2.1 t141.2.2.2.1 t141.2.2.2.2.1 TB LN PS TC TW TG CM) H := hP
    have hD : va_D A (wX3 cI a0 a1 a2 a3 a4 a5 a6 a7 a8 a9 a10 a11 t141.1 t141.2.1 t141.2.2.1 t141.2.2.2.1 t141.2.2.2.2.1 TB LN PS TC TW TG CM) := hD
    have hl : lv_has ls 10 [(4, .int t141.2.2.2.2.2), (3, .int y3), (2, .int y2), (1, .ref a0), (0, .ref b)] := hl
    refine lv_iload hx hb dL_law_141 (lv_at hl 0 rfl) ?_
    refine lv_bipush (v := (22 : Int32)) hx hb dL_law_143 (by decide) ?_
    refine lv_icmp_ge (tgt := 269) hx hb dL_law_145 (by decide) (fun c501 => ?_) (fun c501 => ?_)
    · have hf := kIfT c501 hf
      obtain ⟨r_, hf, he⟩ := kBind hf
      have he := (Option.some.inj he).symm
      have he := hO1 _ he
      rw [he] at hf
      exact hJ269 t141.1 t141.2.1 t141.2.2.1 t141.2.2.2.1 t141.2.2.2.2.1 PS TC TW TG CM t141.2.2.2.2.2 y3 y2 hf H locs ls hP hD hS (lv_sub hl [0, 1, 2, 3, 4] rfl)
    · have hf := kIfF c501 hf
      refine lv_aload_n hx hb dL_law_148 rfl (lv_at hl 4 rfl) ?_
      refine lv_iconst (v := (5 : Int32)) hx hb dL_law_149 (by decide) ?_
      refine lv_iload hx hb dL_law_150 (lv_at hl 0 rfl) ?_
      refine lv_iadd hx hb dL_law_152 ?_
      obtain ⟨v502, h503, hf⟩ := kBind hf
      refine kgoR (kcellrun (rest := []) hx hb hml hown hts hK hX hbl hbA hS h503 hl.1 rfl (Nat.le_of_ble_eq_true rfl) dL_law_153 ⟨Nat.le_of_ble_eq_true rfl, Nat.le_of_ble_eq_true rfl⟩ ⟨Nat.le_of_ble_eq_true rfl, Nat.le_of_ble_eq_true rfl⟩) hP hD hS hA [] rfl (fun H locs hP hS => ?_)
      refine lv_istore (lv' := [(5, .int v502), (4, .int t141.2.2.2.2.2), (3, .int y3), (2, .int y2), (1, .ref a0), (0, .ref b)]) hx hb dL_law_156 hl (by decide) rfl (fun ls hl => ?_)
      refine lv_aload_n hx hb dL_law_158 rfl (lv_at hl 4 rfl) ?_
      obtain ⟨v504, h505, hf⟩ := kBind hf
      refine kgoR (krunV (wc := (wX3 cI a0 a1 a2 a3 a4 a5 a6 a7 a8 a9 a10 a11 t141.1 t141.2.1 t141.2.2.1 t141.2.2.2.1 t141.2.2.2.2.1 TB LN PS TC TW TG CM)) (As := []) (rest := []) (ci := 3) hx hb hml hown hts hK (kX3_digest l D cI fu a0 a1 a2 a3 a4 a5 a6 a7 a8 a9 a10 a11 t141.1 t141.2.1 t141.2.2.1 t141.2.2.2.1 t141.2.2.2.2.1 TB LN PS TC TW TG CM v504 h505) gL_law_X3_digest rfl rfl rfl hdX3_digest ⟨Nat.le_of_ble_eq_true rfl, Nat.le_of_ble_eq_true rfl⟩ hP hD rfl rfl rfl rfl hl.1 rfl (Nat.le_of_ble_eq_true rfl) dL_law_159 ⟨Nat.le_of_ble_eq_true rfl, Nat.le_of_ble_eq_true rfl⟩) hP hD hS hA [0, 1, 2, 3, 4, 5, 6, 7, 8, 9, 10, 11] rfl (fun H locs hP hS => ?_)
      refine lv_lstore (lv' := [(6, .long v504), (5, .int v502), (4, .int t141.2.2.2.2.2), (3, .int y3), (2, .int y2), (1, .ref a0), (0, .ref b)]) hx hb dL_law_162 hl (by decide) rfl (fun ls hl => ?_)
      refine lv_aload_n hx hb dL_law_164 rfl (lv_at hl 5 rfl) ?_
      refine lv_iload hx hb dL_law_165 (lv_at hl 1 rfl) ?_
      obtain ⟨v506, h507, hf⟩ := kBind hf
      refine kgoA (krunS (wc := (wX3 cI a0 a1 a2 a3 a4 a5 a6 a7 a8 a9 a10 a11 t141.1 t141.2.1 t141.2.2.1 t141.2.2.2.1 t141.2.2.2.2.1 TB LN PS TC TW TG CM)) (As := [.ref a0, .int v502]) (rest := []) hx hb hml hown hts hK (kL_changes l D cI fu a0 a1 a2 a3 a4 a5 a6 a7 a8 a9 a10 a11 t141.1 t141.2.1 t141.2.2.1 t141.2.2.2.1 t141.2.2.2.2.1 TB LN PS TC TW TG CM v502 v506 h507) gL_law_L_changes rfl rfl rfl hdL_changes ⟨Nat.le_of_ble_eq_true rfl, Nat.le_of_ble_eq_true rfl⟩ hP hD rfl hl.1 rfl (Nat.le_of_ble_eq_true rfl) dL_law_167 ⟨Nat.le_of_ble_eq_true rfl, Nat.le_of_ble_eq_true rfl⟩) hD hS hA (fun H locs hP hD hS => ?_)
      refine lv_istore (lv' := [(8, .int v506.1), (6, .long v504), (5, .int v502), (4, .int t141.2.2.2.2.2), (3, .int y3), (2, .int y2), (1, .ref a0), (0, .ref b)]) hx hb dL_law_170 hl (by decide) rfl (fun ls hl => ?_)
      refine lv_iload hx hb dL_law_172 (lv_at hl 0 rfl) ?_
      refine lv_bipush (v := (-100 : Int32)) hx hb dL_law_174 (by decide) ?_
      refine lv_icmp_ge (tgt := 191) hx hb dL_law_176 (by decide) (fun c508 => ?_) (fun c508 => ?_)
      · have hf := kIfT c508 hf
        exact hJ191 v506.2.1 v506.2.2.1 v506.2.2.2.1 v506.2.2.2.2.1 v506.2.2.2.2.2 v506.1 v504 v502 t141.2.2.2.2.2 hf H locs ls hP hD hS (lv_sub hl [0, 1, 2, 3, 4, 5, 6, 7] rfl)
      · have hf := kIfF c508 hf
        refine lv_aload_n hx hb dL_law_179 rfl (lv_at hl 6 rfl) ?_
        obtain ⟨v509, h510, hf⟩ := kBind hf
        refine kgoR (krunV (wc := (wX3 cI a0 a1 a2 a3 a4 a5 a6 a7 a8 a9 a10 a11 v506.2.1 v506.2.2.1 v506.2.2.2.1 v506.2.2.2.2.1 v506.2.2.2.2.2 TB LN PS TC TW TG CM)) (As := []) (rest := []) (ci := 3) hx hb hml hown hts hK (kX3_digest l D cI fu a0 a1 a2 a3 a4 a5 a6 a7 a8 a9 a10 a11 v506.2.1 v506.2.2.1 v506.2.2.2.1 v506.2.2.2.2.1 v506.2.2.2.2.2 TB LN PS TC TW TG CM v509 h510) gL_law_X3_digest rfl rfl rfl hdX3_digest ⟨Nat.le_of_ble_eq_true rfl, Nat.le_of_ble_eq_true rfl⟩ hP hD rfl rfl rfl rfl hl.1 rfl (Nat.le_of_ble_eq_true rfl) dL_law_180 ⟨Nat.le_of_ble_eq_true rfl, Nat.le_of_ble_eq_true rfl⟩) hP hD hS hA [0, 1, 2, 3, 4, 5, 6, 7, 8, 9, 10, 11] rfl (fun H locs hP hS => ?_)
        refine lv_lload hx hb dL_law_183 (lv_at hl 1 rfl) ?_
        refine W.lcmp hx hb dL_law_185 ?_
        refine lv_if_eq (tgt := 191) hx hb dL_law_186 (by decide) (fun c511 => ?_) (fun c511 => ?_)
        · have hf := kIfT c511 hf
          exact hJ191 v506.2.1 v506.2.2.1 v506.2.2.2.1 v506.2.2.2.2.1 v506.2.2.2.2.2 v506.1 v504 v502 t141.2.2.2.2.2 hf H locs ls hP hD hS (lv_sub hl [0, 1, 2, 3, 4, 5, 6, 7] rfl)
        · have hf := kIfF c511 hf
          refine lv_iconst (v := (0 : Int32)) hx hb dL_law_189 (by decide) ?_
          have he := Option.some.inj hf
          have he := hO1 _ he.symm
          exact absurd he (by decide)
  refine kcut (D := D) (A := A) (fun K => ∀ (R : (Nat → Int32)) (R2 : (Nat → Int32)) (HR : (Nat → Int32)) (HS : Int32) (HN : Int32) (PS : Int32) (TC : (Nat → Int32)) (TW : (Nat → Int32)) (TG : (Nat → Int32)) (CM : Int32) (y2 : Int32), fL_law_J14 fu L xs R R2 HR HS HN TB LN TC TW TG y2 = some true → K (wX3 cI a0 a1 a2 a3 a4 a5 a6 a7 a8 a9 a10 a11 R R2 HR HS HN TB LN PS TC TW TG CM) 10 [(2, .int y2), (1, .ref a0), (0, .ref b)] 14) ?_ (fun hJ14 => ?_)
  · intro R R2 HR HS HN PS TC TW TG CM y2 hf H locs ls hP hD hS hl
    unfold fL_law_J14 at hf
    have hP : va_P D vwCl (wX3 cI a0 a1 a2 a3 a4 a5 a6 a7 a8 a9 a10 a11 R R2 HR HS HN TB LN PS TC TW TG CM) H := hP
    have hD : va_D A (wX3 cI a0 a1 a2 a3 a4 a5 a6 a7 a8 a9 a10 a11 R R2 HR HS HN TB LN PS TC TW TG CM) := hD
    have hl : lv_has ls 10 [(2, .int y2), (1, .ref a0), (0, .ref b)] := hl
    refine lv_aload_n hx hb dL_law_14 rfl (lv_at hl 1 rfl) ?_
    obtain ⟨v512, h513, hf⟩ := kBind hf
    refine kgoA (krunV (wc := (wX3 cI a0 a1 a2 a3 a4 a5 a6 a7 a8 a9 a10 a11 R R2 HR HS HN TB LN PS TC TW TG CM)) (As := []) (rest := []) (ci := 3) hx hb hml hown hts hK (kX3_undo l D cI a0 a1 a2 a3 a4 a5 a6 a7 a8 a9 a10 a11 R R2 HR HS HN TB LN PS TC TW TG CM v512 h513) gL_law_X3_undo rfl rfl rfl hdX3_undo ⟨Nat.le_of_ble_eq_true rfl, Nat.le_of_ble_eq_true rfl⟩ hP hD rfl rfl rfl rfl hl.1 rfl (Nat.le_of_ble_eq_true rfl) dL_law_15 ⟨Nat.le_of_ble_eq_true rfl, Nat.le_of_ble_eq_true rfl⟩) hD hS hA (fun H locs hP hD hS => ?_)
    refine lv_bipush (v := (-103 : Int32)) hx hb dL_law_18 (by decide) ?_
    refine lv_icmp_ne (tgt := 64) hx hb dL_law_20 (by decide) (fun c514 => ?_) (fun c514 => ?_)
    · have hf := kIfF c514 hf
      refine lv_iconst (v := (0 : Int32)) hx hb dL_law_64 (by decide) ?_
      have he := Option.some.inj hf
      exact absurd he (by decide)
    · have hf := kIfT c514 hf
      refine lv_aload_n hx hb dL_law_23 rfl (lv_at hl 1 rfl) ?_
      obtain ⟨v515, h516, hf⟩ := kBind hf
      refine kgoR (krunV (wc := (wX3 cI a0 a1 a2 a3 a4 a5 a6 a7 a8 a9 a10 a11 v512.2.1 R2 HR v512.2.2.1 v512.2.2.2 TB LN PS TC TW TG CM)) (As := []) (rest := []) (ci := 3) hx hb hml hown hts hK (kX3_cycle l D cI fu a0 a1 a2 a3 a4 a5 a6 a7 a8 a9 a10 a11 v512.2.1 R2 HR v512.2.2.1 v512.2.2.2 TB LN PS TC TW TG CM v515 h516) gL_law_X3_cycle rfl rfl rfl hdX3_cycle ⟨Nat.le_of_ble_eq_true rfl, Nat.le_of_ble_eq_true rfl⟩ hP hD rfl rfl rfl rfl hl.1 rfl (Nat.le_of_ble_eq_true rfl) dL_law_24 ⟨Nat.le_of_ble_eq_true rfl, Nat.le_of_ble_eq_true rfl⟩) hP hD hS hA [0, 1, 2, 3, 4, 5, 6, 7, 8, 9, 10, 11] rfl (fun H locs hP hS => ?_)
      refine lv_if_ne (tgt := 64) hx hb dL_law_27 (by decide) (fun c517 => ?_) (fun c517 => ?_)
      · have hf := kIfF c517 hf
        refine lv_iconst (v := (0 : Int32)) hx hb dL_law_64 (by decide) ?_
        have he := Option.some.inj hf
        exact absurd he (by decide)
      · have hf := kIfT c517 hf
        refine lv_aload_n hx hb dL_law_30 rfl (lv_at hl 1 rfl) ?_
        obtain ⟨v518, h519, hf⟩ := kBind hf
        refine kgoR (krunV (wc := (wX3 cI a0 a1 a2 a3 a4 a5 a6 a7 a8 a9 a10 a11 v512.2.1 R2 HR v512.2.2.1 v512.2.2.2 TB LN PS TC TW TG CM)) (As := []) (rest := []) (ci := 3) hx hb hml hown hts hK (kX3_conflicts l D cI fu a0 a1 a2 a3 a4 a5 a6 a7 a8 a9 a10 a11 v512.2.1 R2 HR v512.2.2.1 v512.2.2.2 TB LN PS TC TW TG CM v518 h519) gL_law_X3_conflicts rfl rfl rfl hdX3_conflicts ⟨Nat.le_of_ble_eq_true rfl, Nat.le_of_ble_eq_true rfl⟩ hP hD rfl rfl rfl rfl hl.1 rfl (Nat.le_of_ble_eq_true rfl) dL_law_31 ⟨Nat.le_of_ble_eq_true rfl, Nat.le_of_ble_eq_true rfl⟩) hP hD hS hA [0, 1, 2, 3, 4, 5, 6, 7, 8, 9, 10, 11] rfl (fun H locs hP hS => ?_)
        refine lv_if_ne (tgt := 64) hx hb dL_law_34 (by decide) (fun c520 => ?_) (fun c520 => ?_)
        · have hf := kIfF c520 hf
          refine lv_iconst (v := (0 : Int32)) hx hb dL_law_64 (by decide) ?_
          have he := Option.some.inj hf
          exact absurd he (by decide)
        · have hf := kIfT c520 hf
          refine lv_aload_n hx hb dL_law_37 rfl (lv_at hl 1 rfl) ?_
          obtain ⟨v521, h522, hf⟩ := kBind hf
          refine kgoA (krunV (wc := (wX3 cI a0 a1 a2 a3 a4 a5 a6 a7 a8 a9 a10 a11 v512.2.1 R2 HR v512.2.2.1 v512.2.2.2 TB LN PS TC TW TG CM)) (As := []) (rest := []) (ci := 3) hx hb hml hown hts hK (kX3_allDone l D cI fu a0 a1 a2 a3 a4 a5 a6 a7 a8 a9 a10 a11 v512.2.1 R2 HR v512.2.2.1 v512.2.2.2 TB LN PS TC TW TG CM v521 h522) gL_law_X3_allDone rfl rfl rfl hdX3_allDone ⟨Nat.le_of_ble_eq_true rfl, Nat.le_of_ble_eq_true rfl⟩ hP hD rfl rfl rfl rfl hl.1 rfl (Nat.le_of_ble_eq_true rfl) dL_law_38 ⟨Nat.le_of_ble_eq_true rfl, Nat.le_of_ble_eq_true rfl⟩) hD hS hA (fun H locs hP hD hS => ?_)
          refine lv_if_ne (tgt := 64) hx hb dL_law_41 (by decide) (fun c523 => ?_) (fun c523 => ?_)
          · have hf := kIfF c523 hf
            refine lv_iconst (v := (0 : Int32)) hx hb dL_law_64 (by decide) ?_
            have he := Option.some.inj hf
            exact absurd he (by decide)
          · have hf := kIfT c523 hf
            refine lv_aload_n hx hb dL_law_44 rfl (lv_at hl 1 rfl) ?_
            obtain ⟨v524, h525, hf⟩ := kBind hf
            refine kgoA (krunV (wc := (wX3 cI a0 a1 a2 a3 a4 a5 a6 a7 a8 a9 a10 a11 v512.2.1 v521.2 HR v512.2.2.1 v512.2.2.2 TB LN PS TC TW TG CM)) (As := []) (rest := []) (ci := 3) hx hb hml hown hts hK (kX3_command l D cI fu a0 a1 a2 a3 a4 a5 a6 a7 a8 a9 a10 a11 v512.2.1 v521.2 HR v512.2.2.1 v512.2.2.2 TB LN PS TC TW TG CM v524 h525) gL_law_X3_command rfl rfl rfl hdX3_command ⟨Nat.le_of_ble_eq_true rfl, Nat.le_of_ble_eq_true rfl⟩ hP hD rfl rfl rfl rfl hl.1 rfl (Nat.le_of_ble_eq_true rfl) dL_law_45 ⟨Nat.le_of_ble_eq_true rfl, Nat.le_of_ble_eq_true rfl⟩) hD hS hA (fun H locs hP hD hS => ?_)
            refine lv_bipush (v := (-103 : Int32)) hx hb dL_law_48 (by decide) ?_
            refine lv_icmp_ne (tgt := 64) hx hb dL_law_50 (by decide) (fun c526 => ?_) (fun c526 => ?_)
            · have hf := kIfF c526 hf
              refine lv_iconst (v := (0 : Int32)) hx hb dL_law_64 (by decide) ?_
              have he := Option.some.inj hf
              exact absurd he (by decide)
            · have hf := kIfT c526 hf
              refine lv_aload_n hx hb dL_law_53 rfl (lv_at hl 1 rfl) ?_
              refine lv_iconst (v := (0 : Int32)) hx hb dL_law_54 (by decide) ?_
              refine lv_iconst (v := (0 : Int32)) hx hb dL_law_55 (by decide) ?_
              obtain ⟨v527, h528, hf⟩ := kBind hf
              refine kgoR (krunV (wc := (wX3 cI a0 a1 a2 a3 a4 a5 a6 a7 a8 a9 a10 a11 v524.2.1 v521.2 v524.2.2.1 v524.2.2.2.1 v524.2.2.2.2.1 TB LN v524.2.2.2.2.2.1 v524.2.2.2.2.2.2.1 v524.2.2.2.2.2.2.2.1 v524.2.2.2.2.2.2.2.2.1 v524.2.2.2.2.2.2.2.2.2)) (As := [.int (0 : Int32), .int (0 : Int32)]) (rest := []) (ci := 3) hx hb hml hown hts hK (kX3_crane l D cI fu a0 a1 a2 a3 a4 a5 a6 a7 a8 a9 a10 a11 v524.2.1 v521.2 v524.2.2.1 v524.2.2.2.1 v524.2.2.2.2.1 TB LN v524.2.2.2.2.2.1 v524.2.2.2.2.2.2.1 v524.2.2.2.2.2.2.2.1 v524.2.2.2.2.2.2.2.2.1 v524.2.2.2.2.2.2.2.2.2 (0 : Int32) (0 : Int32) v527 h528) gL_law_X3_crane rfl rfl rfl hdX3_crane ⟨Nat.le_of_ble_eq_true rfl, Nat.le_of_ble_eq_true rfl⟩ hP hD rfl rfl rfl rfl hl.1 rfl (Nat.le_of_ble_eq_true rfl) dL_law_56 ⟨Nat.le_of_ble_eq_true rfl, Nat.le_of_ble_eq_true rfl⟩) hP hD hS hA [0, 1, 2, 3, 4, 5, 6, 7, 8, 9, 10, 11] rfl (fun H locs hP hS => ?_)
              refine lv_bipush (v := (-101 : Int32)) hx hb dL_law_59 (by decide) ?_
              refine lv_icmp_eq (tgt := 66) hx hb dL_law_61 (by decide) (fun c529 => ?_) (fun c529 => ?_)
              · have hf := kIfT c529 hf
                refine lv_iconst (v := (2 : Int32)) hx hb dL_law_66 (by decide) ?_
                refine lv_iload_n hx hb dL_law_67 rfl (lv_at hl 0 rfl) ?_
                refine lv_iconst (v := (3 : Int32)) hx hb dL_law_68 (by decide) ?_
                obtain ⟨v530, h531, hf⟩ := kBind hf
                refine kgoR (krunS (wc := ([] : va_W)) (As := [.int y2, .int (3 : Int32)]) (rest := [.int (2 : Int32)]) hx hb hml hown hts hK (kL_low l D cI y2 (3 : Int32) v530 h531) gL_law_L_low rfl rfl rfl hdL_low ⟨Nat.le_of_ble_eq_true rfl, Nat.le_of_ble_eq_true rfl⟩ k_P0 (k_D0 A) rfl hl.1 rfl (Nat.le_of_ble_eq_true rfl) dL_law_69 ⟨Nat.le_of_ble_eq_true rfl, Nat.le_of_ble_eq_true rfl⟩) hP hD hS hA [] rfl (fun H locs hP hS => ?_)
                refine lv_iadd hx hb dL_law_72 ?_
                refine lv_istore_n (lv' := [(3, .int ((2 : Int32) + v530)), (2, .int y2), (1, .ref a0), (0, .ref b)]) hx hb dL_law_73 rfl hl (by decide) rfl (fun ls hl => ?_)
                refine lv_iconst (v := (0 : Int32)) hx hb dL_law_74 (by decide) ?_
                refine lv_istore (lv' := [(4, .int (0 : Int32)), (3, .int ((2 : Int32) + v530)), (2, .int y2), (1, .ref a0), (0, .ref b)]) hx hb dL_law_75 hl (by decide) rfl (fun ls hl => ?_)
                have hl : lv_has ls 10 [(4, .int (0 : Int32)), (3, .int ((2 : Int32) + v530)), (2, .int y2), (1, .ref a0), (0, .ref b)] := hl
                refine klp hf (fun t77 : (Nat → Int32) × (Nat → Int32) × Int32 × Int32 × Int32 => (wX3 cI a0 a1 a2 a3 a4 a5 a6 a7 a8 a9 a10 a11 t77.1 v521.2 t77.2.1 t77.2.2.1 t77.2.2.2.1 TB LN v524.2.2.2.2.2.1 v524.2.2.2.2.2.2.1 v524.2.2.2.2.2.2.2.1 v524.2.2.2.2.2.2.2.2.1 v524.2.2.2.2.2.2.2.2.2)) 10 (fun t77 : (Nat → Int32) × (Nat → Int32) × Int32 × Int32 × Int32 => [(4, .int t77.2.2.2.2), (3, .int ((2 : Int32) + v530)), (2, .int y2), (1, .ref a0), (0, .ref b)]) ?_ hP hD hS hl
                intro t77 x77_ hf hI1 hO1 H locs ls hP hD hS hl
                unfold fL_law_L77 at hf
                have hP : va_P D vwCl (wX3 cI a0 a1 a2 a3 a4 a5 a6 a7 a8 a9 a10 a11 t77.1 v521.2 t77.2.1 t77.2.2.1 t77.2.2.2.1 TB LN v524.2.2.2.2.2.1 v524.2.2.2.2.2.2.1 v524.2.2.2.2.2.2.2.1 v524.2.2.2.2.2.2.2.2.1 v524.2.2.2.2.2.2.2.2.2) H := hP
                have hD : va_D A (wX3 cI a0 a1 a2 a3 a4 a5 a6 a7 a8 a9 a10 a11 t77.1 v521.2 t77.2.1 t77.2.2.1 t77.2.2.2.1 TB LN v524.2.2.2.2.2.1 v524.2.2.2.2.2.2.1 v524.2.2.2.2.2.2.2.1 v524.2.2.2.2.2.2.2.2.1 v524.2.2.2.2.2.2.2.2.2) := hD
                have hl : lv_has ls 10 [(4, .int t77.2.2.2.2), (3, .int ((2 : Int32) + v530)), (2, .int y2), (1, .ref a0), (0, .ref b)] := hl
                refine lv_iload hx hb dL_law_77 (lv_at hl 0 rfl) ?_
                refine lv_iload_n hx hb dL_law_79 rfl (lv_at hl 1 rfl) ?_
                refine lv_icmp_ge (tgt := 138) hx hb dL_law_80 (by decide) (fun c532 => ?_) (fun c532 => ?_)
                · have hf := kIfT c532 hf
                  obtain ⟨r_, hf, he⟩ := kBind hf
                  have he := (Option.some.inj he).symm
                  have he := hO1 _ he
                  rw [he] at hf
                  exact hJ138 t77.1 v521.2 t77.2.1 t77.2.2.1 t77.2.2.2.1 v524.2.2.2.2.2.1 v524.2.2.2.2.2.2.1 v524.2.2.2.2.2.2.2.1 v524.2.2.2.2.2.2.2.2.1 v524.2.2.2.2.2.2.2.2.2 t77.2.2.2.2 ((2 : Int32) + v530) y2 hf H locs ls hP hD hS (lv_sub hl [0, 1, 2, 3, 4] rfl)
                · have hf := kIfF c532 hf
                  refine lv_aload_n hx hb dL_law_83 rfl (lv_at hl 4 rfl) ?_
                  refine lv_iconst (v := (1 : Int32)) hx hb dL_law_84 (by decide) ?_
                  refine lv_iload hx hb dL_law_85 (lv_at hl 0 rfl) ?_
                  refine lv_iadd hx hb dL_law_87 ?_
                  obtain ⟨v533, h534, hf⟩ := kBind hf
                  refine kgoR (kcellrun (rest := []) hx hb hml hown hts hK hX hbl hbA hS h534 hl.1 rfl (Nat.le_of_ble_eq_true rfl) dL_law_88 ⟨Nat.le_of_ble_eq_true rfl, Nat.le_of_ble_eq_true rfl⟩ ⟨Nat.le_of_ble_eq_true rfl, Nat.le_of_ble_eq_true rfl⟩) hP hD hS hA [] rfl (fun H locs hP hS => ?_)
                  refine lv_istore (lv' := [(5, .int v533), (4, .int t77.2.2.2.2), (3, .int ((2 : Int32) + v530)), (2, .int y2), (1, .ref a0), (0, .ref b)]) hx hb dL_law_91 hl (by decide) rfl (fun ls hl => ?_)
                  refine lv_aload_n hx hb dL_law_93 rfl (lv_at hl 4 rfl) ?_
                  refine lv_iload hx hb dL_law_94 (lv_at hl 0 rfl) ?_
                  refine lv_bipush (v := (36 : Int32)) hx hb dL_law_96 (by decide) ?_
                  obtain ⟨v535, h536, hf⟩ := kBind hf
                  refine kgoR (krunS (wc := ([] : va_W)) (As := [.int v533, .int (36 : Int32)]) (rest := [.ref a0]) hx hb hml hown hts hK (kL_low l D cI v533 (36 : Int32) v535 h536) gL_law_L_low rfl rfl rfl hdL_low ⟨Nat.le_of_ble_eq_true rfl, Nat.le_of_ble_eq_true rfl⟩ k_P0 (k_D0 A) rfl hl.1 rfl (Nat.le_of_ble_eq_true rfl) dL_law_98 ⟨Nat.le_of_ble_eq_true rfl, Nat.le_of_ble_eq_true rfl⟩) hP hD hS hA [] rfl (fun H locs hP hS => ?_)
                  refine lv_iconst (v := (1 : Int32)) hx hb dL_law_101 (by decide) ?_
                  refine lv_iload hx hb dL_law_102 (lv_at hl 0 rfl) ?_
                  refine lv_bipush (v := (6 : Int32)) hx hb dL_law_104 (by decide) ?_
                  refine kishr hx hb dL_law_106 ?_
                  refine lv_iconst (v := (5 : Int32)) hx hb dL_law_107 (by decide) ?_
                  obtain ⟨v537, h538, hf⟩ := kBind hf
                  refine kgoR (krunS (wc := ([] : va_W)) (As := [.int (jshr v533 (6 : Int32)), .int (5 : Int32)]) (rest := [.int (1 : Int32), .int v535, .ref a0]) hx hb hml hown hts hK (kL_low l D cI (jshr v533 (6 : Int32)) (5 : Int32) v537 h538) gL_law_L_low rfl rfl rfl hdL_low ⟨Nat.le_of_ble_eq_true rfl, Nat.le_of_ble_eq_true rfl⟩ k_P0 (k_D0 A) rfl hl.1 rfl (Nat.le_of_ble_eq_true rfl) dL_law_108 ⟨Nat.le_of_ble_eq_true rfl, Nat.le_of_ble_eq_true rfl⟩) hP hD hS hA [] rfl (fun H locs hP hS => ?_)
                  refine lv_iadd hx hb dL_law_111 ?_
                  refine lv_iload hx hb dL_law_112 (lv_at hl 0 rfl) ?_
                  refine lv_bipush (v := (9 : Int32)) hx hb dL_law_114 (by decide) ?_
                  refine kishr hx hb dL_law_116 ?_
                  refine lv_bipush (v := (10 : Int32)) hx hb dL_law_117 (by decide) ?_
                  obtain ⟨v539, h540, hf⟩ := kBind hf
                  refine kgoR (krunS (wc := ([] : va_W)) (As := [.int (jshr v533 (9 : Int32)), .int (10 : Int32)]) (rest := [.int ((1 : Int32) + v537), .int v535, .ref a0]) hx hb hml hown hts hK (kL_low l D cI (jshr v533 (9 : Int32)) (10 : Int32) v539 h540) gL_law_L_low rfl rfl rfl hdL_low ⟨Nat.le_of_ble_eq_true rfl, Nat.le_of_ble_eq_true rfl⟩ k_P0 (k_D0 A) rfl hl.1 rfl (Nat.le_of_ble_eq_true rfl) dL_law_119 ⟨Nat.le_of_ble_eq_true rfl, Nat.le_of_ble_eq_true rfl⟩) hP hD hS hA [] rfl (fun H locs hP hS => ?_)
                  obtain ⟨v541, h542, hf⟩ := kBind hf
                  refine kgoA (krunV (wc := (wX3 cI a0 a1 a2 a3 a4 a5 a6 a7 a8 a9 a10 a11 t77.1 v521.2 t77.2.1 t77.2.2.1 t77.2.2.2.1 TB LN v524.2.2.2.2.2.1 v524.2.2.2.2.2.2.1 v524.2.2.2.2.2.2.2.1 v524.2.2.2.2.2.2.2.2.1 v524.2.2.2.2.2.2.2.2.2)) (As := [.int v535, .int ((1 : Int32) + v537), .int v539]) (rest := []) (ci := 3) hx hb hml hown hts hK (kX3_addCrane l D cI a0 a1 a2 a3 a4 a5 a6 a7 a8 a9 a10 a11 t77.1 v521.2 t77.2.1 t77.2.2.1 t77.2.2.2.1 TB LN v524.2.2.2.2.2.1 v524.2.2.2.2.2.2.1 v524.2.2.2.2.2.2.2.1 v524.2.2.2.2.2.2.2.2.1 v524.2.2.2.2.2.2.2.2.2 v535 ((1 : Int32) + v537) v539 v541 h542) gL_law_X3_addCrane rfl rfl rfl hdX3_addCrane ⟨Nat.le_of_ble_eq_true rfl, Nat.le_of_ble_eq_true rfl⟩ hP hD rfl rfl rfl rfl hl.1 rfl (Nat.le_of_ble_eq_true rfl) dL_law_122 ⟨Nat.le_of_ble_eq_true rfl, Nat.le_of_ble_eq_true rfl⟩) hD hS hA (fun H locs hP hD hS => ?_)
                  refine lv_iload hx hb dL_law_125 (lv_at hl 1 rfl) ?_
                  refine lv_icmp_eq (tgt := 132) hx hb dL_law_127 (by decide) (fun c543 => ?_) (fun c543 => ?_)
                  · have hf := kIfT c543 hf
                    refine lv_iinc (v := t77.2.2.2.2 + (1 : Int32)) (lv' := [(4, .int (t77.2.2.2.2 + (1 : Int32))), (5, .int v533), (3, .int ((2 : Int32) + v530)), (2, .int y2), (1, .ref a0), (0, .ref b)]) hx hb dL_law_132 hl (k := 1) rfl rfl (by decide) rfl (fun ls hl => ?_)
                    refine lv_goto (tgt := 77) hx hb dL_law_135 (by decide) ?_
                    obtain ⟨z544, hz544⟩ : ∃ z : Int32, z = t77.2.2.2.2 + (1 : Int32) := ⟨_, rfl⟩
                    rw [← hz544] at hf
                    have he := (Option.some.inj hf).symm
                    have hl : lv_has ls 10 [(4, .int z544), (3, .int ((2 : Int32) + v530)), (2, .int y2), (1, .ref a0), (0, .ref b)] := by rw [hz544]; exact lv_sub hl [0, 2, 3, 4, 5] rfl
                    exact hI1 _ he H locs ls hP hD hS hl
                  · have hf := kIfF c543 hf
                    refine lv_iconst (v := (0 : Int32)) hx hb dL_law_130 (by decide) ?_
                    have he := Option.some.inj hf
                    have he := hO1 _ he.symm
                    exact absurd he (by decide)
              · have hf := kIfF c529 hf
                refine lv_iconst (v := (0 : Int32)) hx hb dL_law_64 (by decide) ?_
                have he := Option.some.inj hf
                exact absurd he (by decide)
  refine lv_aload_n hx hb dL_law_8 rfl (lv_at hl 1 rfl) ?_
  refine lv_iconst (v := (0 : Int32)) hx hb dL_law_9 (by decide) ?_
  obtain ⟨v545, h546, hf⟩ := kBind hf
  refine kgoR (kcellrun (rest := []) hx hb hml hown hts hK hX hbl hbA hS h546 hl.1 rfl (Nat.le_of_ble_eq_true rfl) dL_law_10 ⟨Nat.le_of_ble_eq_true rfl, Nat.le_of_ble_eq_true rfl⟩ ⟨Nat.le_of_ble_eq_true rfl, Nat.le_of_ble_eq_true rfl⟩) hP hD hS hA [] rfl (fun H locs hP hS => ?_)
  refine lv_istore_n (lv' := [(2, .int v545), (1, .ref a0), (0, .ref b)]) hx hb dL_law_13 rfl hl (by decide) rfl (fun ls hl => ?_)
  exact hJ14 R R2 HR HS HN PS TC TW TG CM v545 hf H locs ls hP hD hS (lv_sub hl [0, 1, 2] rfl)
