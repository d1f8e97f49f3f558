def wX3_X4 (cI : ClassId) (a0 a1 a2 a3 a4 a5 a6 a7 a8 a9 a10 a11 a12 a13 a14 : Nat) (R : Nat → Int32) (R2 : Nat → Int32) (HR : Nat → Int32) (HS : Int32) (HN : Int32) (TB : Nat → Int32) (LN : Int32) (PS : Int32) (TC : Nat → Int32) (TW : Nat → Int32) (TG : Nat → Int32) (CM : Int32) (M : Nat → Int32) (SV : Int32) (MX : Nat → Int32) (ML : Int32) (MA : Int32) (MH : Int64) : va_W := [(a0, .inr (3, [.ref a1, .ref a3, .ref a5, .ref a7])), (a1, .inr (1, [.ref a2])), (a2, .inl (cI, 132, .inl R)), (a3, .inr (1, [.ref a4])), (a4, .inl (cI, 132, .inl R2)), (a5, .inr (0, [.ref a6, .int HS, .int HN])), (a6, .inl (cI, 660, .inl HR)), (a7, .inr (2, [.ref a8, .int LN, .int PS, .ref a9, .ref a10, .ref a11, .int CM])), (a8, .inl (cI, 80, .inl TB)), (a9, .inl (cI, 20, .inl TC)), (a10, .inl (cI, 20, .inl TW)), (a11, .inl (cI, 20, .inl TG)), (a12, .inr (4, [.ref a13, .int SV, .ref a14, .int ML, .int MA, .long MH])), (a13, .inl (cI, 896, .inl M)), (a14, .inl (cI, 80, .inl MX))]
noncomputable def fL_law_c0 (fu : Nat) (L : Nat) (xs : Nat → Int32) (R : (Nat → Int32)) (R2 : (Nat → Int32)) (HR : (Nat → Int32)) (HS : Int32) (HN : Int32) (TB : (Nat → Int32)) (LN : Int32) (PS : Int32) (TC : (Nat → Int32)) (TW : (Nat → Int32)) (TG : (Nat → Int32)) (CM : Int32) (M : (Nat → Int32)) (SV : Int32) (MX : (Nat → Int32)) (ML : Int32) (MA : Int32) (MH : Int64) (x3 : Int32) : Option (((Nat → Int32) × (Nat → Int32) × (Nat → Int32) × Int32 × Int32 × (Nat → Int32) × Int32 × Int32 × (Nat → Int32) × (Nat → Int32) × (Nat → Int32) × Int32 × (Nat → Int32) × Int32 × (Nat → Int32) × Int32 × Int32 × Int64 × Int32) ⊕ (Bool)) := Option.bind (rdA xs L (x3 + (1 : Int32))) fun v5 => Option.bind (rdA xs L (x3 + (2 : Int32))) fun v7 => Option.bind (rdA xs L (x3 + (3 : Int32))) fun v9 => Option.bind (fX3_addCrane R HR HS HN v5 v7 v9) fun v11 => Option.bind (rdA xs L (x3 + (1 : Int32))) fun v13 => Option.bind (rdA xs L (x3 + (2 : Int32))) fun v15 => Option.bind (rdA xs L (x3 + (3 : Int32))) fun v17 => Option.bind (fX4_addCrane fu M SV v13 v15 v17) fun v19 => if v11.1 = v19.1 then (some (.inl (v11.2.1, R2, v11.2.2.1, v11.2.2.2.1, v11.2.2.2.2, TB, LN, PS, TC, TW, TG, CM, v19.2.1, v19.2.2, MX, ML, MA, MH, x3 + (5 : Int32)))) else (some (.inr false))
noncomputable def fL_law_c1 (fu : Nat) (L : Nat) (xs : Nat → Int32) (R : (Nat → Int32)) (R2 : (Nat → Int32)) (HR : (Nat → Int32)) (HS : Int32) (HN : Int32) (TB : (Nat → Int32)) (LN : Int32) (PS : Int32) (TC : (Nat → Int32)) (TW : (Nat → Int32)) (TG : (Nat → Int32)) (CM : Int32) (M : (Nat → Int32)) (SV : Int32) (MX : (Nat → Int32)) (ML : Int32) (MA : Int32) (MH : Int64) (x3 : Int32) : Option (((Nat → Int32) × (Nat → Int32) × (Nat → Int32) × Int32 × Int32 × (Nat → Int32) × Int32 × Int32 × (Nat → Int32) × (Nat → Int32) × (Nat → Int32) × Int32 × (Nat → Int32) × Int32 × (Nat → Int32) × Int32 × Int32 × Int64 × Int32) ⊕ (Bool)) := Option.bind (rdA xs L (x3 + (1 : Int32))) fun v24 => Option.bind (rdA xs L (x3 + (2 : Int32))) fun v26 => Option.bind (fX3_setPriority R HR HS HN v24 v26) fun v28 => Option.bind (rdA xs L (x3 + (1 : Int32))) fun v30 => Option.bind (rdA xs L (x3 + (2 : Int32))) fun v32 => Option.bind (fX4_setPriority fu M SV v30 v32) fun v34 => if v28.1 = v34.1 then (some (.inl (v28.2.1, R2, v28.2.2.1, v28.2.2.2.1, v28.2.2.2.2, TB, LN, PS, TC, TW, TG, CM, v34.2.1, v34.2.2, MX, ML, MA, MH, x3 + (5 : Int32)))) else (some (.inr false))
noncomputable def fL_law_c2 (fu : Nat) (L : Nat) (xs : Nat → Int32) (R : (Nat → Int32)) (R2 : (Nat → Int32)) (HR : (Nat → Int32)) (HS : Int32) (HN : Int32) (TB : (Nat → Int32)) (LN : Int32) (PS : Int32) (TC : (Nat → Int32)) (TW : (Nat → Int32)) (TG : (Nat → Int32)) (CM : Int32) (M : (Nat → Int32)) (SV : Int32) (MX : (Nat → Int32)) (ML : Int32) (MA : Int32) (MH : Int64) (x3 : Int32) : Option (((Nat → Int32) × (Nat → Int32) × (Nat → Int32) × Int32 × Int32 × (Nat → Int32) × Int32 × Int32 × (Nat → Int32) × (Nat → Int32) × (Nat → Int32) × Int32 × (Nat → Int32) × Int32 × (Nat → Int32) × Int32 × Int32 × Int64 × Int32) ⊕ (Bool)) := Option.bind (rdA xs L (x3 + (1 : Int32))) fun v39 => Option.bind (rdA xs L (x3 + (2 : Int32))) fun v41 => Option.bind (rdA xs L (x3 + (3 : Int32))) fun v43 => Option.bind (rdA xs L (x3 + (4 : Int32))) fun v45 => Option.bind (fX3_setArc fu R R2 HR HS HN v39 v41 v43 v45) fun v47 => Option.bind (rdA xs L (x3 + (1 : Int32))) fun v49 => Option.bind (rdA xs L (x3 + (2 : Int32))) fun v51 => Option.bind (rdA xs L (x3 + (3 : Int32))) fun v53 => Option.bind (rdA xs L (x3 + (4 : Int32))) fun v55 => Option.bind (fX4_setArc fu M SV v49 v51 v53 v55) fun v57 => if v47.1 = v57.1 then (some (.inl (v47.2.1, v47.2.2.1, v47.2.2.2.1, v47.2.2.2.2.1, v47.2.2.2.2.2, TB, LN, PS, TC, TW, TG, CM, v57.2.1, v57.2.2, MX, ML, MA, MH, x3 + (5 : Int32)))) else (some (.inr false))
noncomputable def fL_law_c3 (fu : Nat) (L : Nat) (xs : Nat → Int32) (R : (Nat → Int32)) (R2 : (Nat → Int32)) (HR : (Nat → Int32)) (HS : Int32) (HN : Int32) (TB : (Nat → Int32)) (LN : Int32) (PS : Int32) (TC : (Nat → Int32)) (TW : (Nat → Int32)) (TG : (Nat → Int32)) (CM : Int32) (M : (Nat → Int32)) (SV : Int32) (MX : (Nat → Int32)) (ML : Int32) (MA : Int32) (MH : Int64) (x3 : Int32) : Option (((Nat → Int32) × (Nat → Int32) × (Nat → Int32) × Int32 × Int32 × (Nat → Int32) × Int32 × Int32 × (Nat → Int32) × (Nat → Int32) × (Nat → Int32) × Int32 × (Nat → Int32) × Int32 × (Nat → Int32) × Int32 × Int32 × Int64 × Int32) ⊕ (Bool)) := Option.bind (rdA xs L (x3 + (1 : Int32))) fun v62 => Option.bind (rdA xs L (x3 + (2 : Int32))) fun v64 => Option.bind (fX3_removeArc R HR HS HN v62 v64) fun v66 => Option.bind (rdA xs L (x3 + (1 : Int32))) fun v68 => Option.bind (rdA xs L (x3 + (2 : Int32))) fun v70 => Option.bind (fX4_removeArc fu M SV v68 v70) fun v72 => if v66.1 = v72.1 then (some (.inl (v66.2.1, R2, v66.2.2.1, v66.2.2.2.1, v66.2.2.2.2, TB, LN, PS, TC, TW, TG, CM, v72.2.1, v72.2.2, MX, ML, MA, MH, x3 + (5 : Int32)))) else (some (.inr false))
noncomputable def fL_law_c4 (fu : Nat) (L : Nat) (xs : Nat → Int32) (R : (Nat → Int32)) (R2 : (Nat → Int32)) (HR : (Nat → Int32)) (HS : Int32) (HN : Int32) (TB : (Nat → Int32)) (LN : Int32) (PS : Int32) (TC : (Nat → Int32)) (TW : (Nat → Int32)) (TG : (Nat → Int32)) (CM : Int32) (M : (Nat → Int32)) (SV : Int32) (MX : (Nat → Int32)) (ML : Int32) (MA : Int32) (MH : Int64) (x3 : Int32) : Option (((Nat → Int32) × (Nat → Int32) × (Nat → Int32) × Int32 × Int32 × (Nat → Int32) × Int32 × Int32 × (Nat → Int32) × (Nat → Int32) × (Nat → Int32) × Int32 × (Nat → Int32) × Int32 × (Nat → Int32) × Int32 × Int32 × Int64 × Int32) ⊕ (Bool)) := Option.bind (fX3_cranes R) fun v77 => Option.bind (fX4_cranes M) fun v79 => if v77 = v79 then (some (.inl (R, R2, HR, HS, HN, TB, LN, PS, TC, TW, TG, CM, M, SV, MX, ML, MA, MH, x3 + (5 : Int32)))) else (some (.inr false))
noncomputable def fL_law_c5 (fu : Nat) (L : Nat) (xs : Nat → Int32) (R : (Nat → Int32)) (R2 : (Nat → Int32)) (HR : (Nat → Int32)) (HS : Int32) (HN : Int32) (TB : (Nat → Int32)) (LN : Int32) (PS : Int32) (TC : (Nat → Int32)) (TW : (Nat → Int32)) (TG : (Nat → Int32)) (CM : Int32) (M : (Nat → Int32)) (SV : Int32) (MX : (Nat → Int32)) (ML : Int32) (MA : Int32) (MH : Int64) (x3 : Int32) : Option (((Nat → Int32) × (Nat → Int32) × (Nat → Int32) × Int32 × Int32 × (Nat → Int32) × Int32 × Int32 × (Nat → Int32) × (Nat → Int32) × (Nat → Int32) × Int32 × (Nat → Int32) × Int32 × (Nat → Int32) × Int32 × Int32 × Int64 × Int32) ⊕ (Bool)) := Option.bind (rdA xs L (x3 + (1 : Int32))) fun v84 => Option.bind (rdA xs L (x3 + (2 : Int32))) fun v86 => Option.bind (fX3_crane fu R v84 v86) fun v88 => Option.bind (rdA xs L (x3 + (1 : Int32))) fun v90 => Option.bind (rdA xs L (x3 + (2 : Int32))) fun v92 => Option.bind (fX4_crane fu M v90 v92) fun v94 => if v88 = v94 then (some (.inl (R, R2, HR, HS, HN, TB, LN, PS, TC, TW, TG, CM, M, SV, MX, ML, MA, MH, x3 + (5 : Int32)))) else (some (.inr false))
noncomputable def fL_law_c6 (fu : Nat) (L : Nat) (xs : Nat → Int32) (R : (Nat → Int32)) (R2 : (Nat → Int32)) (HR : (Nat → Int32)) (HS : Int32) (HN : Int32) (TB : (Nat → Int32)) (LN : Int32) (PS : Int32) (TC : (Nat → Int32)) (TW : (Nat → Int32)) (TG : (Nat → Int32)) (CM : Int32) (M : (Nat → Int32)) (SV : Int32) (MX : (Nat → Int32)) (ML : Int32) (MA : Int32) (MH : Int64) (x3 : Int32) : Option (((Nat → Int32) × (Nat → Int32) × (Nat → Int32) × Int32 × Int32 × (Nat → Int32) × Int32 × Int32 × (Nat → Int32) × (Nat → Int32) × (Nat → Int32) × Int32 × (Nat → Int32) × Int32 × (Nat → Int32) × Int32 × Int32 × Int64 × Int32) ⊕ (Bool)) := Option.bind (rdA xs L (x3 + (1 : Int32))) fun v99 => Option.bind (rdA xs L (x3 + (2 : Int32))) fun v101 => Option.bind (rdA xs L (x3 + (3 : Int32))) fun v103 => if v103 = (0 : Int32) then (Option.bind (fX3_arc R v99 v101 false) fun v106 => Option.bind (rdA xs L (x3 + (1 : Int32))) fun v108 => Option.bind (rdA xs L (x3 + (2 : Int32))) fun v110 => Option.bind (rdA xs L (x3 + (3 : Int32))) fun v112 => if v112 = (0 : Int32) then (Option.bind (fX4_arc M v108 v110 false) fun v115 => if v106 = v115 then (some (.inl (R, R2, HR, HS, HN, TB, LN, PS, TC, TW, TG, CM, M, SV, MX, ML, MA, MH, x3 + (5 : Int32)))) else (some (.inr false))) else (Option.bind (fX4_arc M v108 v110 true) fun v119 => if v106 = v119 then (some (.inl (R, R2, HR, HS, HN, TB, LN, PS, TC, TW, TG, CM, M, SV, MX, ML, MA, MH, x3 + (5 : Int32)))) else (some (.inr false)))) else (Option.bind (fX3_arc R v99 v101 true) fun v123 => Option.bind (rdA xs L (x3 + (1 : Int32))) fun v125 => Option.bind (rdA xs L (x3 + (2 : Int32))) fun v127 => Option.bind (rdA xs L (x3 + (3 : Int32))) fun v129 => if v129 = (0 : Int32) then (Option.bind (fX4_arc M v125 v127 false) fun v132 => if v123 = v132 then (some (.inl (R, R2, HR, HS, HN, TB, LN, PS, TC, TW, TG, CM, M, SV, MX, ML, MA, MH, x3 + (5 : Int32)))) else (some (.inr false))) else (Option.bind (fX4_arc M v125 v127 true) fun v136 => if v123 = v136 then (some (.inl (R, R2, HR, HS, HN, TB, LN, PS, TC, TW, TG, CM, M, SV, MX, ML, MA, MH, x3 + (5 : Int32)))) else (some (.inr false))))
noncomputable def fL_law_c7 (fu : Nat) (L : Nat) (xs : Nat → Int32) (R : (Nat → Int32)) (R2 : (Nat → Int32)) (HR : (Nat → Int32)) (HS : Int32) (HN : Int32) (TB : (Nat → Int32)) (LN : Int32) (PS : Int32) (TC : (Nat → Int32)) (TW : (Nat → Int32)) (TG : (Nat → Int32)) (CM : Int32) (M : (Nat → Int32)) (SV : Int32) (MX : (Nat → Int32)) (ML : Int32) (MA : Int32) (MH : Int64) (x3 : Int32) : Option (((Nat → Int32) × (Nat → Int32) × (Nat → Int32) × Int32 × Int32 × (Nat → Int32) × Int32 × Int32 × (Nat → Int32) × (Nat → Int32) × (Nat → Int32) × Int32 × (Nat → Int32) × Int32 × (Nat → Int32) × Int32 × Int32 × Int64 × Int32) ⊕ (Bool)) := Option.bind (rdA xs L (x3 + (1 : Int32))) fun v141 => Option.bind (fX3_occupants fu R v141) fun v143 => Option.bind (rdA xs L (x3 + (1 : Int32))) fun v145 => Option.bind (fX4_occupants fu M v145) fun v147 => if v143 = v147 then (some (.inl (R, R2, HR, HS, HN, TB, LN, PS, TC, TW, TG, CM, M, SV, MX, ML, MA, MH, x3 + (5 : Int32)))) else (some (.inr false))
noncomputable def fL_law_c8 (fu : Nat) (L : Nat) (xs : Nat → Int32) (R : (Nat → Int32)) (R2 : (Nat → Int32)) (HR : (Nat → Int32)) (HS : Int32) (HN : Int32) (TB : (Nat → Int32)) (LN : Int32) (PS : Int32) (TC : (Nat → Int32)) (TW : (Nat → Int32)) (TG : (Nat → Int32)) (CM : Int32) (M : (Nat → Int32)) (SV : Int32) (MX : (Nat → Int32)) (ML : Int32) (MA : Int32) (MH : Int64) (x3 : Int32) : Option (((Nat → Int32) × (Nat → Int32) × (Nat → Int32) × Int32 × Int32 × (Nat → Int32) × Int32 × Int32 × (Nat → Int32) × (Nat → Int32) × (Nat → Int32) × Int32 × (Nat → Int32) × Int32 × (Nat → Int32) × Int32 × Int32 × Int64 × Int32) ⊕ (Bool)) := Option.bind (fX3_conflicts fu R) fun v152 => Option.bind (fX4_conflicts fu M) fun v154 => if v152 = v154 then (some (.inl (R, R2, HR, HS, HN, TB, LN, PS, TC, TW, TG, CM, M, SV, MX, ML, MA, MH, x3 + (5 : Int32)))) else (some (.inr false))
noncomputable def fL_law_c9 (fu : Nat) (L : Nat) (xs : Nat → Int32) (R : (Nat → Int32)) (R2 : (Nat → Int32)) (HR : (Nat → Int32)) (HS : Int32) (HN : Int32) (TB : (Nat → Int32)) (LN : Int32) (PS : Int32) (TC : (Nat → Int32)) (TW : (Nat → Int32)) (TG : (Nat → Int32)) (CM : Int32) (M : (Nat → Int32)) (SV : Int32) (MX : (Nat → Int32)) (ML : Int32) (MA : Int32) (MH : Int64) (x3 : Int32) : Option (((Nat → Int32) × (Nat → Int32) × (Nat → Int32) × Int32 × Int32 × (Nat → Int32) × Int32 × Int32 × (Nat → Int32) × (Nat → Int32) × (Nat → Int32) × Int32 × (Nat → Int32) × Int32 × (Nat → Int32) × Int32 × Int32 × Int64 × Int32) ⊕ (Bool)) := Option.bind (rdA xs L (x3 + (1 : Int32))) fun v159 => Option.bind (rdA xs L (x3 + (2 : Int32))) fun v161 => Option.bind (rdA xs L (x3 + (3 : Int32))) fun v163 => Option.bind (fX3_slew R HR HS HN v159 v161 v163) fun v165 => Option.bind (rdA xs L (x3 + (1 : Int32))) fun v167 => Option.bind (rdA xs L (x3 + (2 : Int32))) fun v169 => Option.bind (rdA xs L (x3 + (3 : Int32))) fun v171 => Option.bind (fX4_slew fu M SV v167 v169 v171) fun v173 => if v165.1 = v173.1 then (some (.inl (v165.2.1, R2, v165.2.2.1, v165.2.2.2.1, v165.2.2.2.2, TB, LN, PS, TC, TW, TG, CM, v173.2.1, v173.2.2, MX, ML, MA, MH, x3 + (5 : Int32)))) else (some (.inr false))
noncomputable def fL_law_c10 (fu : Nat) (L : Nat) (xs : Nat → Int32) (R : (Nat → Int32)) (R2 : (Nat → Int32)) (HR : (Nat → Int32)) (HS : Int32) (HN : Int32) (TB : (Nat → Int32)) (LN : Int32) (PS : Int32) (TC : (Nat → Int32)) (TW : (Nat → Int32)) (TG : (Nat → Int32)) (CM : Int32) (M : (Nat → Int32)) (SV : Int32) (MX : (Nat → Int32)) (ML : Int32) (MA : Int32) (MH : Int64) (x3 : Int32) : Option (((Nat → Int32) × (Nat → Int32) × (Nat → Int32) × Int32 × Int32 × (Nat → Int32) × Int32 × Int32 × (Nat → Int32) × (Nat → Int32) × (Nat → Int32) × Int32 × (Nat → Int32) × Int32 × (Nat → Int32) × Int32 × Int32 × Int64 × Int32) ⊕ (Bool)) := Option.bind (rdA xs L (x3 + (1 : Int32))) fun v178 => Option.bind (fX3_stop R HR HS HN v178) fun v180 => Option.bind (rdA xs L (x3 + (1 : Int32))) fun v182 => Option.bind (fX4_stop fu M SV v182) fun v184 => if v180.1 = v184.1 then (some (.inl (v180.2.1, R2, v180.2.2.1, v180.2.2.2.1, v180.2.2.2.2, TB, LN, PS, TC, TW, TG, CM, v184.2.1, v184.2.2, MX, ML, MA, MH, x3 + (5 : Int32)))) else (some (.inr false))
noncomputable def fL_law_c11 (fu : Nat) (L : Nat) (xs : Nat → Int32) (R : (Nat → Int32)) (R2 : (Nat → Int32)) (HR : (Nat → Int32)) (HS : Int32) (HN : Int32) (TB : (Nat → Int32)) (LN : Int32) (PS : Int32) (TC : (Nat → Int32)) (TW : (Nat → Int32)) (TG : (Nat → Int32)) (CM : Int32) (M : (Nat → Int32)) (SV : Int32) (MX : (Nat → Int32)) (ML : Int32) (MA : Int32) (MH : Int64) (x3 : Int32) : Option (((Nat → Int32) × (Nat → Int32) × (Nat → Int32) × Int32 × Int32 × (Nat → Int32) × Int32 × Int32 × (Nat → Int32) × (Nat → Int32) × (Nat → Int32) × Int32 × (Nat → Int32) × Int32 × (Nat → Int32) × Int32 × Int32 × Int64 × Int32) ⊕ (Bool)) := Option.bind (rdA xs L (x3 + (1 : Int32))) fun v189 => Option.bind (fX3_turnRound R HR HS HN v189) fun v191 => Option.bind (rdA xs L (x3 + (1 : Int32))) fun v193 => Option.bind (fX4_turnRound fu M SV v193) fun v195 => if v191.1 = v195.1 then (some (.inl (v191.2.1, R2, v191.2.2.1, v191.2.2.2.1, v191.2.2.2.2, TB, LN, PS, TC, TW, TG, CM, v195.2.1, v195.2.2, MX, ML, MA, MH, x3 + (5 : Int32)))) else (some (.inr false))
noncomputable def fL_law_c12 (fu : Nat) (L : Nat) (xs : Nat → Int32) (R : (Nat → Int32)) (R2 : (Nat → Int32)) (HR : (Nat → Int32)) (HS : Int32) (HN : Int32) (TB : (Nat → Int32)) (LN : Int32) (PS : Int32) (TC : (Nat → Int32)) (TW : (Nat → Int32)) (TG : (Nat → Int32)) (CM : Int32) (M : (Nat → Int32)) (SV : Int32) (MX : (Nat → Int32)) (ML : Int32) (MA : Int32) (MH : Int64) (x3 : Int32) : Option (((Nat → Int32) × (Nat → Int32) × (Nat → Int32) × Int32 × Int32 × (Nat → Int32) × Int32 × Int32 × (Nat → Int32) × (Nat → Int32) × (Nat → Int32) × Int32 × (Nat → Int32) × Int32 × (Nat → Int32) × Int32 × Int32 × Int64 × Int32) ⊕ (Bool)) := Option.bind (rdA xs L (x3 + (1 : Int32))) fun v200 => Option.bind (fX3_tick fu R HR HS HN v200) fun v202 => Option.bind (rdA xs L (x3 + (1 : Int32))) fun v204 => Option.bind (fX4_tick fu M SV v204) fun v206 => if v202.1 = v206.1 then (some (.inl (v202.2.1, R2, v202.2.2.1, v202.2.2.2.1, v202.2.2.2.2, TB, LN, PS, TC, TW, TG, CM, v206.2.1, v206.2.2, MX, ML, MA, MH, x3 + (5 : Int32)))) else (some (.inr false))
noncomputable def fL_law_c13 (fu : Nat) (L : Nat) (xs : Nat → Int32) (R : (Nat → Int32)) (R2 : (Nat → Int32)) (HR : (Nat → Int32)) (HS : Int32) (HN : Int32) (TB : (Nat → Int32)) (LN : Int32) (PS : Int32) (TC : (Nat → Int32)) (TW : (Nat → Int32)) (TG : (Nat → Int32)) (CM : Int32) (M : (Nat → Int32)) (SV : Int32) (MX : (Nat → Int32)) (ML : Int32) (MA : Int32) (MH : Int64) (x3 : Int32) : Option (((Nat → Int32) × (Nat → Int32) × (Nat → Int32) × Int32 × Int32 × (Nat → Int32) × Int32 × Int32 × (Nat → Int32) × (Nat → Int32) × (Nat → Int32) × Int32 × (Nat → Int32) × Int32 × (Nat → Int32) × Int32 × Int32 × Int64 × Int32) ⊕ (Bool)) := Option.bind (fX3_time R) fun v211 => Option.bind (fX4_time M) fun v213 => if v211 = v213 then (some (.inl (R, R2, HR, HS, HN, TB, LN, PS, TC, TW, TG, CM, M, SV, MX, ML, MA, MH, x3 + (5 : Int32)))) else (some (.inr false))
noncomputable def fL_law_c14 (fu : Nat) (L : Nat) (xs : Nat → Int32) (R : (Nat → Int32)) (R2 : (Nat → Int32)) (HR : (Nat → Int32)) (HS : Int32) (HN : Int32) (TB : (Nat → Int32)) (LN : Int32) (PS : Int32) (TC : (Nat → Int32)) (TW : (Nat → Int32)) (TG : (Nat → Int32)) (CM : Int32) (M : (Nat → Int32)) (SV : Int32) (MX : (Nat → Int32)) (ML : Int32) (MA : Int32) (MH : Int64) (x3 : Int32) : Option (((Nat → Int32) × (Nat → Int32) × (Nat → Int32) × Int32 × Int32 × (Nat → Int32) × Int32 × Int32 × (Nat → Int32) × (Nat → Int32) × (Nat → Int32) × Int32 × (Nat → Int32) × Int32 × (Nat → Int32) × Int32 × Int32 × Int64 × Int32) ⊕ (Bool)) := Option.bind (rdA xs L (x3 + (1 : Int32))) fun v218 => Option.bind (fX3_needs R v218) fun v220 => Option.bind (rdA xs L (x3 + (1 : Int32))) fun v222 => Option.bind (fX4_needs M v222) fun v224 => if v220 = v224 then (some (.inl (R, R2, HR, HS, HN, TB, LN, PS, TC, TW, TG, CM, M, SV, MX, ML, MA, MH, x3 + (5 : Int32)))) else (some (.inr false))
noncomputable def fL_law_c15 (fu : Nat) (L : Nat) (xs : Nat → Int32) (R : (Nat → Int32)) (R2 : (Nat → Int32)) (HR : (Nat → Int32)) (HS : Int32) (HN : Int32) (TB : (Nat → Int32)) (LN : Int32) (PS : Int32) (TC : (Nat → Int32)) (TW : (Nat → Int32)) (TG : (Nat → Int32)) (CM : Int32) (M : (Nat → Int32)) (SV : Int32) (MX : (Nat → Int32)) (ML : Int32) (MA : Int32) (MH : Int64) (x3 : Int32) : Option (((Nat → Int32) × (Nat → Int32) × (Nat → Int32) × Int32 × Int32 × (Nat → Int32) × Int32 × Int32 × (Nat → Int32) × (Nat → Int32) × (Nat → Int32) × Int32 × (Nat → Int32) × Int32 × (Nat → Int32) × Int32 × Int32 × Int64 × Int32) ⊕ (Bool)) := Option.bind (rdA xs L (x3 + (1 : Int32))) fun v229 => Option.bind (fX3_blocker fu R v229) fun v231 => Option.bind (rdA xs L (x3 + (1 : Int32))) fun v233 => Option.bind (fX4_blocker fu M v233) fun v235 => if v231 = v235 then (some (.inl (R, R2, HR, HS, HN, TB, LN, PS, TC, TW, TG, CM, M, SV, MX, ML, MA, MH, x3 + (5 : Int32)))) else (some (.inr false))
noncomputable def fL_law_c16 (fu : Nat) (L : Nat) (xs : Nat → Int32) (R : (Nat → Int32)) (R2 : (Nat → Int32)) (HR : (Nat → Int32)) (HS : Int32) (HN : Int32) (TB : (Nat → Int32)) (LN : Int32) (PS : Int32) (TC : (Nat → Int32)) (TW : (Nat → Int32)) (TG : (Nat → Int32)) (CM : Int32) (M : (Nat → Int32)) (SV : Int32) (MX : (Nat → Int32)) (ML : Int32) (MA : Int32) (MH : Int64) (x3 : Int32) : Option (((Nat → Int32) × (Nat → Int32) × (Nat → Int32) × Int32 × Int32 × (Nat → Int32) × Int32 × Int32 × (Nat → Int32) × (Nat → Int32) × (Nat → Int32) × Int32 × (Nat → Int32) × Int32 × (Nat → Int32) × Int32 × Int32 × Int64 × Int32) ⊕ (Bool)) := Option.bind (fX3_cycle fu R) fun v240 => Option.bind (fX4_cycle fu M) fun v242 => if v240 = v242 then (some (.inl (R, R2, HR, HS, HN, TB, LN, PS, TC, TW, TG, CM, M, SV, MX, ML, MA, MH, x3 + (5 : Int32)))) else (some (.inr false))
noncomputable def fL_law_c17 (fu : Nat) (L : Nat) (xs : Nat → Int32) (R : (Nat → Int32)) (R2 : (Nat → Int32)) (HR : (Nat → Int32)) (HS : Int32) (HN : Int32) (TB : (Nat → Int32)) (LN : Int32) (PS : Int32) (TC : (Nat → Int32)) (TW : (Nat → Int32)) (TG : (Nat → Int32)) (CM : Int32) (M : (Nat → Int32)) (SV : Int32) (MX : (Nat → Int32)) (ML : Int32) (MA : Int32) (MH : Int64) (x3 : Int32) : Option (((Nat → Int32) × (Nat → Int32) × (Nat → Int32) × Int32 × Int32 × (Nat → Int32) × Int32 × Int32 × (Nat → Int32) × (Nat → Int32) × (Nat → Int32) × Int32 × (Nat → Int32) × Int32 × (Nat → Int32) × Int32 × Int32 × Int64 × Int32) ⊕ (Bool)) := Option.bind (fX3_allDone fu R R2) fun v247 => Option.bind (fX4_allDone fu M) fun v249 => if v247.1 = v249.1 then (some (.inl (R, v247.2, HR, HS, HN, TB, LN, PS, TC, TW, TG, CM, v249.2, SV, MX, ML, MA, MH, x3 + (5 : Int32)))) else (some (.inr false))
noncomputable def fL_law_c18 (fu : Nat) (L : Nat) (xs : Nat → Int32) (R : (Nat → Int32)) (R2 : (Nat → Int32)) (HR : (Nat → Int32)) (HS : Int32) (HN : Int32) (TB : (Nat → Int32)) (LN : Int32) (PS : Int32) (TC : (Nat → Int32)) (TW : (Nat → Int32)) (TG : (Nat → Int32)) (CM : Int32) (M : (Nat → Int32)) (SV : Int32) (MX : (Nat → Int32)) (ML : Int32) (MA : Int32) (MH : Int64) (x3 : Int32) : Option (((Nat → Int32) × (Nat → Int32) × (Nat → Int32) × Int32 × Int32 × (Nat → Int32) × Int32 × Int32 × (Nat → Int32) × (Nat → Int32) × (Nat → Int32) × Int32 × (Nat → Int32) × Int32 × (Nat → Int32) × Int32 × Int32 × Int64 × Int32) ⊕ (Bool)) := Option.bind (rdA xs L (x3 + (1 : Int32))) fun v254 => Option.bind (fX3_done fu R R2 v254) fun v256 => Option.bind (rdA xs L (x3 + (1 : Int32))) fun v258 => Option.bind (fX4_done fu M v258) fun v260 => if v256.1 = v260.1 then (some (.inl (R, v256.2, HR, HS, HN, TB, LN, PS, TC, TW, TG, CM, v260.2, SV, MX, ML, MA, MH, x3 + (5 : Int32)))) else (some (.inr false))
noncomputable def fL_law_c19 (fu : Nat) (L : Nat) (xs : Nat → Int32) (R : (Nat → Int32)) (R2 : (Nat → Int32)) (HR : (Nat → Int32)) (HS : Int32) (HN : Int32) (TB : (Nat → Int32)) (LN : Int32) (PS : Int32) (TC : (Nat → Int32)) (TW : (Nat → Int32)) (TG : (Nat → Int32)) (CM : Int32) (M : (Nat → Int32)) (SV : Int32) (MX : (Nat → Int32)) (ML : Int32) (MA : Int32) (MH : Int64) (x3 : Int32) : Option (((Nat → Int32) × (Nat → Int32) × (Nat → Int32) × Int32 × Int32 × (Nat → Int32) × Int32 × Int32 × (Nat → Int32) × (Nat → Int32) × (Nat → Int32) × Int32 × (Nat → Int32) × Int32 × (Nat → Int32) × Int32 × Int32 × Int64 × Int32) ⊕ (Bool)) := Option.bind (rdA xs L (x3 + (1 : Int32))) fun v265 => Option.bind (rdA xs L (x3 + (2 : Int32))) fun v267 => Option.bind (fX3_waits fu R R2 v265 v267) fun v269 => Option.bind (rdA xs L (x3 + (1 : Int32))) fun v271 => Option.bind (rdA xs L (x3 + (2 : Int32))) fun v273 => Option.bind (fX4_waits fu M v271 v273) fun v275 => if v269.1 = v275.1 then (some (.inl (R, v269.2, HR, HS, HN, TB, LN, PS, TC, TW, TG, CM, v275.2, SV, MX, ML, MA, MH, x3 + (5 : Int32)))) else (some (.inr false))
noncomputable def fL_law_c20 (fu : Nat) (L : Nat) (xs : Nat → Int32) (R : (Nat → Int32)) (R2 : (Nat → Int32)) (HR : (Nat → Int32)) (HS : Int32) (HN : Int32) (TB : (Nat → Int32)) (LN : Int32) (PS : Int32) (TC : (Nat → Int32)) (TW : (Nat → Int32)) (TG : (Nat → Int32)) (CM : Int32) (M : (Nat → Int32)) (SV : Int32) (MX : (Nat → Int32)) (ML : Int32) (MA : Int32) (MH : Int64) (x3 : Int32) : Option (((Nat → Int32) × (Nat → Int32) × (Nat → Int32) × Int32 × Int32 × (Nat → Int32) × Int32 × Int32 × (Nat → Int32) × (Nat → Int32) × (Nat → Int32) × Int32 × (Nat → Int32) × Int32 × (Nat → Int32) × Int32 × Int32 × Int64 × Int32) ⊕ (Bool)) := Option.bind (rdA xs L (x3 + (1 : Int32))) fun v280 => Option.bind (fX3_setWind R HR HS HN v280) fun v282 => Option.bind (rdA xs L (x3 + (1 : Int32))) fun v284 => Option.bind (fX4_setWind fu M SV v284) fun v286 => if v282.1 = v286.1 then (some (.inl (v282.2.1, R2, v282.2.2.1, v282.2.2.2.1, v282.2.2.2.2, TB, LN, PS, TC, TW, TG, CM, v286.2.1, v286.2.2, MX, ML, MA, MH, x3 + (5 : Int32)))) else (some (.inr false))
noncomputable def fL_law_c21 (fu : Nat) (L : Nat) (xs : Nat → Int32) (R : (Nat → Int32)) (R2 : (Nat → Int32)) (HR : (Nat → Int32)) (HS : Int32) (HN : Int32) (TB : (Nat → Int32)) (LN : Int32) (PS : Int32) (TC : (Nat → Int32)) (TW : (Nat → Int32)) (TG : (Nat → Int32)) (CM : Int32) (M : (Nat → Int32)) (SV : Int32) (MX : (Nat → Int32)) (ML : Int32) (MA : Int32) (MH : Int64) (x3 : Int32) : Option (((Nat → Int32) × (Nat → Int32) × (Nat → Int32) × Int32 × Int32 × (Nat → Int32) × Int32 × Int32 × (Nat → Int32) × (Nat → Int32) × (Nat → Int32) × Int32 × (Nat → Int32) × Int32 × (Nat → Int32) × Int32 × Int32 × Int64 × Int32) ⊕ (Bool)) := Option.bind (rdA xs L (x3 + (1 : Int32))) fun v291 => Option.bind (rdA xs L (x3 + (2 : Int32))) fun v293 => if v293 = (0 : Int32) then (Option.bind (fX3_leave fu R HR HS HN v291 false) fun v296 => Option.bind (rdA xs L (x3 + (1 : Int32))) fun v298 => Option.bind (rdA xs L (x3 + (2 : Int32))) fun v300 => if v300 = (0 : Int32) then (Option.bind (fX4_leave fu M SV v298 false) fun v303 => if v296.1 = v303.1 then (some (.inl (v296.2.1, R2, v296.2.2.1, v296.2.2.2.1, v296.2.2.2.2, TB, LN, PS, TC, TW, TG, CM, v303.2.1, v303.2.2, MX, ML, MA, MH, x3 + (5 : Int32)))) else (some (.inr false))) else (Option.bind (fX4_leave fu M SV v298 true) fun v307 => if v296.1 = v307.1 then (some (.inl (v296.2.1, R2, v296.2.2.1, v296.2.2.2.1, v296.2.2.2.2, TB, LN, PS, TC, TW, TG, CM, v307.2.1, v307.2.2, MX, ML, MA, MH, x3 + (5 : Int32)))) else (some (.inr false)))) else (Option.bind (fX3_leave fu R HR HS HN v291 true) fun v311 => Option.bind (rdA xs L (x3 + (1 : Int32))) fun v313 => Option.bind (rdA xs L (x3 + (2 : Int32))) fun v315 => if v315 = (0 : Int32) then (Option.bind (fX4_leave fu M SV v313 false) fun v318 => if v311.1 = v318.1 then (some (.inl (v311.2.1, R2, v311.2.2.1, v311.2.2.2.1, v311.2.2.2.2, TB, LN, PS, TC, TW, TG, CM, v318.2.1, v318.2.2, MX, ML, MA, MH, x3 + (5 : Int32)))) else (some (.inr false))) else (Option.bind (fX4_leave fu M SV v313 true) fun v322 => if v311.1 = v322.1 then (some (.inl (v311.2.1, R2, v311.2.2.1, v311.2.2.2.1, v311.2.2.2.2, TB, LN, PS, TC, TW, TG, CM, v322.2.1, v322.2.2, MX, ML, MA, MH, x3 + (5 : Int32)))) else (some (.inr false))))
noncomputable def fL_law_c22 (fu : Nat) (L : Nat) (xs : Nat → Int32) (R : (Nat → Int32)) (R2 : (Nat → Int32)) (HR : (Nat → Int32)) (HS : Int32) (HN : Int32) (TB : (Nat → Int32)) (LN : Int32) (PS : Int32) (TC : (Nat → Int32)) (TW : (Nat → Int32)) (TG : (Nat → Int32)) (CM : Int32) (M : (Nat → Int32)) (SV : Int32) (MX : (Nat → Int32)) (ML : Int32) (MA : Int32) (MH : Int64) (x3 : Int32) : Option (((Nat → Int32) × (Nat → Int32) × (Nat → Int32) × Int32 × Int32 × (Nat → Int32) × Int32 × Int32 × (Nat → Int32) × (Nat → Int32) × (Nat → Int32) × Int32 × (Nat → Int32) × Int32 × (Nat → Int32) × Int32 × Int32 × Int64 × Int32) ⊕ (Bool)) := Option.bind (rdA xs L (x3 + (1 : Int32))) fun v327 => Option.bind (rdA xs L (x3 + (2 : Int32))) fun v329 => Option.bind (fX3_override fu R HR HS HN v327 v329) fun v331 => Option.bind (rdA xs L (x3 + (1 : Int32))) fun v333 => Option.bind (rdA xs L (x3 + (2 : Int32))) fun v335 => Option.bind (fX4_override fu M SV v333 v335) fun v337 => if v331.1 = v337.1 then (some (.inl (v331.2.1, R2, v331.2.2.1, v331.2.2.2.1, v331.2.2.2.2, TB, LN, PS, TC, TW, TG, CM, v337.2.1, v337.2.2, MX, ML, MA, MH, x3 + (5 : Int32)))) else (some (.inr false))
noncomputable def fL_law_c23 (fu : Nat) (L : Nat) (xs : Nat → Int32) (R : (Nat → Int32)) (R2 : (Nat → Int32)) (HR : (Nat → Int32)) (HS : Int32) (HN : Int32) (TB : (Nat → Int32)) (LN : Int32) (PS : Int32) (TC : (Nat → Int32)) (TW : (Nat → Int32)) (TG : (Nat → Int32)) (CM : Int32) (M : (Nat → Int32)) (SV : Int32) (MX : (Nat → Int32)) (ML : Int32) (MA : Int32) (MH : Int64) (x3 : Int32) : Option (((Nat → Int32) × (Nat → Int32) × (Nat → Int32) × Int32 × Int32 × (Nat → Int32) × Int32 × Int32 × (Nat → Int32) × (Nat → Int32) × (Nat → Int32) × Int32 × (Nat → Int32) × Int32 × (Nat → Int32) × Int32 × Int32 × Int64 × Int32) ⊕ (Bool)) := Option.bind (fX3_notes R) fun v342 => Option.bind (fX4_notes M) fun v344 => if v342 = v344 then (some (.inl (R, R2, HR, HS, HN, TB, LN, PS, TC, TW, TG, CM, M, SV, MX, ML, MA, MH, x3 + (5 : Int32)))) else (some (.inr false))
noncomputable def fL_law_c24 (fu : Nat) (L : Nat) (xs : Nat → Int32) (R : (Nat → Int32)) (R2 : (Nat → Int32)) (HR : (Nat → Int32)) (HS : Int32) (HN : Int32) (TB : (Nat → Int32)) (LN : Int32) (PS : Int32) (TC : (Nat → Int32)) (TW : (Nat → Int32)) (TG : (Nat → Int32)) (CM : Int32) (M : (Nat → Int32)) (SV : Int32) (MX : (Nat → Int32)) (ML : Int32) (MA : Int32) (MH : Int64) (x3 : Int32) : Option (((Nat → Int32) × (Nat → Int32) × (Nat → Int32) × Int32 × Int32 × (Nat → Int32) × Int32 × Int32 × (Nat → Int32) × (Nat → Int32) × (Nat → Int32) × Int32 × (Nat → Int32) × Int32 × (Nat → Int32) × Int32 × Int32 × Int64 × Int32) ⊕ (Bool)) := Option.bind (rdA xs L (x3 + (1 : Int32))) fun v349 => Option.bind (rdA xs L (x3 + (2 : Int32))) fun v351 => Option.bind (fX3_note R v349 v351) fun v353 => Option.bind (rdA xs L (x3 + (1 : Int32))) fun v355 => Option.bind (rdA xs L (x3 + (2 : Int32))) fun v357 => Option.bind (fX4_note M v355 v357) fun v359 => if v353 = v359 then (some (.inl (R, R2, HR, HS, HN, TB, LN, PS, TC, TW, TG, CM, M, SV, MX, ML, MA, MH, x3 + (5 : Int32)))) else (some (.inr false))
noncomputable def fL_law_c25 (fu : Nat) (L : Nat) (xs : Nat → Int32) (R : (Nat → Int32)) (R2 : (Nat → Int32)) (HR : (Nat → Int32)) (HS : Int32) (HN : Int32) (TB : (Nat → Int32)) (LN : Int32) (PS : Int32) (TC : (Nat → Int32)) (TW : (Nat → Int32)) (TG : (Nat → Int32)) (CM : Int32) (M : (Nat → Int32)) (SV : Int32) (MX : (Nat → Int32)) (ML : Int32) (MA : Int32) (MH : Int64) (x3 : Int32) : Option (((Nat → Int32) × (Nat → Int32) × (Nat → Int32) × Int32 × Int32 × (Nat → Int32) × Int32 × Int32 × (Nat → Int32) × (Nat → Int32) × (Nat → Int32) × Int32 × (Nat → Int32) × Int32 × (Nat → Int32) × Int32 × Int32 × Int64 × Int32) ⊕ (Bool)) := Option.bind (fX3_clearNotes R HR HS HN) fun v364 => Option.bind (fX4_clearNotes fu M SV) fun v366 => if v364.1 = v366.1 then (some (.inl (v364.2.1, R2, v364.2.2.1, v364.2.2.2.1, v364.2.2.2.2, TB, LN, PS, TC, TW, TG, CM, v366.2.1, v366.2.2, MX, ML, MA, MH, x3 + (5 : Int32)))) else (some (.inr false))
noncomputable def fL_law_c26 (fu : Nat) (L : Nat) (xs : Nat → Int32) (R : (Nat → Int32)) (R2 : (Nat → Int32)) (HR : (Nat → Int32)) (HS : Int32) (HN : Int32) (TB : (Nat → Int32)) (LN : Int32) (PS : Int32) (TC : (Nat → Int32)) (TW : (Nat → Int32)) (TG : (Nat → Int32)) (CM : Int32) (M : (Nat → Int32)) (SV : Int32) (MX : (Nat → Int32)) (ML : Int32) (MA : Int32) (MH : Int64) (x3 : Int32) : Option (((Nat → Int32) × (Nat → Int32) × (Nat → Int32) × Int32 × Int32 × (Nat → Int32) × Int32 × Int32 × (Nat → Int32) × (Nat → Int32) × (Nat → Int32) × Int32 × (Nat → Int32) × Int32 × (Nat → Int32) × Int32 × Int32 × Int64 × Int32) ⊕ (Bool)) := Option.bind (fX3_undo R HR HS HN) fun v371 => Option.bind (fX4_undo fu M SV) fun v373 => if v371.1 = v373.1 then (some (.inl (v371.2.1, R2, HR, v371.2.2.1, v371.2.2.2, TB, LN, PS, TC, TW, TG, CM, v373.2.1, v373.2.2, MX, ML, MA, MH, x3 + (5 : Int32)))) else (some (.inr false))
noncomputable def fL_law_c27 (fu : Nat) (L : Nat) (xs : Nat → Int32) (R : (Nat → Int32)) (R2 : (Nat → Int32)) (HR : (Nat → Int32)) (HS : Int32) (HN : Int32) (TB : (Nat → Int32)) (LN : Int32) (PS : Int32) (TC : (Nat → Int32)) (TW : (Nat → Int32)) (TG : (Nat → Int32)) (CM : Int32) (M : (Nat → Int32)) (SV : Int32) (MX : (Nat → Int32)) (ML : Int32) (MA : Int32) (MH : Int64) (x3 : Int32) : Option (((Nat → Int32) × (Nat → Int32) × (Nat → Int32) × Int32 × Int32 × (Nat → Int32) × Int32 × Int32 × (Nat → Int32) × (Nat → Int32) × (Nat → Int32) × Int32 × (Nat → Int32) × Int32 × (Nat → Int32) × Int32 × Int32 × Int64 × Int32) ⊕ (Bool)) := Option.bind (rdA xs L (x3 + (1 : Int32))) fun v378 => Option.bind (fX3_type TB LN v378) fun v380 => Option.bind (rdA xs L (x3 + (1 : Int32))) fun v382 => Option.bind (fX4_type MX ML v382) fun v384 => if v380.1 = v384.1 then (some (.inl (R, R2, HR, HS, HN, v380.2.1, v380.2.2, PS, TC, TW, TG, CM, M, SV, v384.2.1, v384.2.2, MA, MH, x3 + (5 : Int32)))) else (some (.inr false))
noncomputable def fL_law_c28 (fu : Nat) (L : Nat) (xs : Nat → Int32) (R : (Nat → Int32)) (R2 : (Nat → Int32)) (HR : (Nat → Int32)) (HS : Int32) (HN : Int32) (TB : (Nat → Int32)) (LN : Int32) (PS : Int32) (TC : (Nat → Int32)) (TW : (Nat → Int32)) (TG : (Nat → Int32)) (CM : Int32) (M : (Nat → Int32)) (SV : Int32) (MX : (Nat → Int32)) (ML : Int32) (MA : Int32) (MH : Int64) (x3 : Int32) : Option (((Nat → Int32) × (Nat → Int32) × (Nat → Int32) × Int32 × Int32 × (Nat → Int32) × Int32 × Int32 × (Nat → Int32) × (Nat → Int32) × (Nat → Int32) × Int32 × (Nat → Int32) × Int32 × (Nat → Int32) × Int32 × Int32 × Int64 × Int32) ⊕ (Bool)) := Option.bind (fX3_clearText LN) fun v389 => Option.bind (fX4_clearText ML) fun v391 => if v389.1 = v391.1 then (some (.inl (R, R2, HR, HS, HN, TB, v389.2, PS, TC, TW, TG, CM, M, SV, MX, v391.2, MA, MH, x3 + (5 : Int32)))) else (some (.inr false))
noncomputable def fL_law_c29 (fu : Nat) (L : Nat) (xs : Nat → Int32) (R : (Nat → Int32)) (R2 : (Nat → Int32)) (HR : (Nat → Int32)) (HS : Int32) (HN : Int32) (TB : (Nat → Int32)) (LN : Int32) (PS : Int32) (TC : (Nat → Int32)) (TW : (Nat → Int32)) (TG : (Nat → Int32)) (CM : Int32) (M : (Nat → Int32)) (SV : Int32) (MX : (Nat → Int32)) (ML : Int32) (MA : Int32) (MH : Int64) (x3 : Int32) : Option (((Nat → Int32) × (Nat → Int32) × (Nat → Int32) × Int32 × Int32 × (Nat → Int32) × Int32 × Int32 × (Nat → Int32) × (Nat → Int32) × (Nat → Int32) × Int32 × (Nat → Int32) × Int32 × (Nat → Int32) × Int32 × Int32 × Int64 × Int32) ⊕ (Bool)) := Option.bind (fX3_textFault fu R TB LN TC TW TG) fun v396 => Option.bind (fX4_textFault fu M MX ML) fun v398 => if v396.1 = v398.1 then (some (.inl (R, R2, HR, HS, HN, TB, LN, v396.2.1, v396.2.2.1, v396.2.2.2.1, v396.2.2.2.2.1, v396.2.2.2.2.2, v398.2.1, SV, MX, ML, v398.2.2, MH, x3 + (5 : Int32)))) else (some (.inr false))
noncomputable def fL_law_c30 (fu : Nat) (L : Nat) (xs : Nat → Int32) (R : (Nat → Int32)) (R2 : (Nat → Int32)) (HR : (Nat → Int32)) (HS : Int32) (HN : Int32) (TB : (Nat → Int32)) (LN : Int32) (PS : Int32) (TC : (Nat → Int32)) (TW : (Nat → Int32)) (TG : (Nat → Int32)) (CM : Int32) (M : (Nat → Int32)) (SV : Int32) (MX : (Nat → Int32)) (ML : Int32) (MA : Int32) (MH : Int64) (x3 : Int32) : Option (((Nat → Int32) × (Nat → Int32) × (Nat → Int32) × Int32 × Int32 × (Nat → Int32) × Int32 × Int32 × (Nat → Int32) × (Nat → Int32) × (Nat → Int32) × Int32 × (Nat → Int32) × Int32 × (Nat → Int32) × Int32 × Int32 × Int64 × Int32) ⊕ (Bool)) := Option.bind (fX3_command fu R HR HS HN TB LN TC TW TG) fun v403 => Option.bind (fX4_command fu M SV MX ML) fun v405 => if v403.1 = v405.1 then (some (.inl (v403.2.1, R2, v403.2.2.1, v403.2.2.2.1, v403.2.2.2.2.1, TB, LN, v403.2.2.2.2.2.1, v403.2.2.2.2.2.2.1, v403.2.2.2.2.2.2.2.1, v403.2.2.2.2.2.2.2.2.1, v403.2.2.2.2.2.2.2.2.2, v405.2.1, v405.2.2.1, MX, ML, v405.2.2.2, MH, x3 + (5 : Int32)))) else (some (.inr false))
noncomputable def fL_law_c31 (fu : Nat) (L : Nat) (xs : Nat → Int32) (R : (Nat → Int32)) (R2 : (Nat → Int32)) (HR : (Nat → Int32)) (HS : Int32) (HN : Int32) (TB : (Nat → Int32)) (LN : Int32) (PS : Int32) (TC : (Nat → Int32)) (TW : (Nat → Int32)) (TG : (Nat → Int32)) (CM : Int32) (M : (Nat → Int32)) (SV : Int32) (MX : (Nat → Int32)) (ML : Int32) (MA : Int32) (MH : Int64) (x3 : Int32) : Option (((Nat → Int32) × (Nat → Int32) × (Nat → Int32) × Int32 × Int32 × (Nat → Int32) × Int32 × Int32 × (Nat → Int32) × (Nat → Int32) × (Nat → Int32) × Int32 × (Nat → Int32) × Int32 × (Nat → Int32) × Int32 × Int32 × Int64 × Int32) ⊕ (Bool)) := Option.bind (fX3_digest fu R) fun v410 => Option.bind (fX4_digest fu M) fun v412 => if (lg_cmp v410 v412.1) = (0 : Int32) then (some (.inl (R, R2, HR, HS, HN, TB, LN, PS, TC, TW, TG, CM, M, SV, MX, ML, MA, v412.2, x3 + (5 : Int32)))) else (some (.inr false))
noncomputable def fL_law_B (fu : Nat) (L : Nat) (xs : Nat → Int32) (R : (Nat → Int32)) (R2 : (Nat → Int32)) (HR : (Nat → Int32)) (HS : Int32) (HN : Int32) (TB : (Nat → Int32)) (LN : Int32) (PS : Int32) (TC : (Nat → Int32)) (TW : (Nat → Int32)) (TG : (Nat → Int32)) (CM : Int32) (M : (Nat → Int32)) (SV : Int32) (MX : (Nat → Int32)) (ML : Int32) (MA : Int32) (MH : Int64) (x3 : Int32) : Option (((Nat → Int32) × (Nat → Int32) × (Nat → Int32) × Int32 × Int32 × (Nat → Int32) × Int32 × Int32 × (Nat → Int32) × (Nat → Int32) × (Nat → Int32) × Int32 × (Nat → Int32) × Int32 × (Nat → Int32) × Int32 × Int32 × Int64 × Int32) ⊕ (Bool)) := if ((Int32.ofNat L) - (5 : Int32)) < x3 then (some (.inr true)) else (Option.bind (rdA xs L x3) fun v2 => if (v2 &&& (31 : Int32)) = (0 : Int32) then (fL_law_c0 fu L xs R R2 HR HS HN TB LN PS TC TW TG CM M SV MX ML MA MH x3) else (if (v2 &&& (31 : Int32)) = (1 : Int32) then (fL_law_c1 fu L xs R R2 HR HS HN TB LN PS TC TW TG CM M SV MX ML MA MH x3) else (if (v2 &&& (31 : Int32)) = (2 : Int32) then (fL_law_c2 fu L xs R R2 HR HS HN TB LN PS TC TW TG CM M SV MX ML MA MH x3) else (if (v2 &&& (31 : Int32)) = (3 : Int32) then (fL_law_c3 fu L xs R R2 HR HS HN TB LN PS TC TW TG CM M SV MX ML MA MH x3) else (if (v2 &&& (31 : Int32)) = (4 : Int32) then (fL_law_c4 fu L xs R R2 HR HS HN TB LN PS TC TW TG CM M SV MX ML MA MH x3) else (if (v2 &&& (31 : Int32)) = (5 : Int32) then (fL_law_c5 fu L xs R R2 HR HS HN TB LN PS TC TW TG CM M SV MX ML MA MH x3) else (if (v2 &&& (31 : Int32)) = (6 : Int32) then (fL_law_c6 fu L xs R R2 HR HS HN TB LN PS TC TW TG CM M SV MX ML MA MH x3) else (if (v2 &&& (31 : Int32)) = (7 : Int32) then (fL_law_c7 fu L xs R R2 HR HS HN TB LN PS TC TW TG CM M SV MX ML MA MH x3) else (if (v2 &&& (31 : Int32)) = (8 : Int32) then (fL_law_c8 fu L xs R R2 HR HS HN TB LN PS TC TW TG CM M SV MX ML MA MH x3) else (if (v2 &&& (31 : Int32)) = (9 : Int32) then (fL_law_c9 fu L xs R R2 HR HS HN TB LN PS TC TW TG CM M SV MX ML MA MH x3) else (if (v2 &&& (31 : Int32)) = (10 : Int32) then (fL_law_c10 fu L xs R R2 HR HS HN TB LN PS TC TW TG CM M SV MX ML MA MH x3) else (if (v2 &&& (31 : Int32)) = (11 : Int32) then (fL_law_c11 fu L xs R R2 HR HS HN TB LN PS TC TW TG CM M SV MX ML MA MH x3) else (if (v2 &&& (31 : Int32)) = (12 : Int32) then (fL_law_c12 fu L xs R R2 HR HS HN TB LN PS TC TW TG CM M SV MX ML MA MH x3) else (if (v2 &&& (31 : Int32)) = (13 : Int32) then (fL_law_c13 fu L xs R R2 HR HS HN TB LN PS TC TW TG CM M SV MX ML MA MH x3) else (if (v2 &&& (31 : Int32)) = (14 : Int32) then (fL_law_c14 fu L xs R R2 HR HS HN TB LN PS TC TW TG CM M SV MX ML MA MH x3) else (if (v2 &&& (31 : Int32)) = (15 : Int32) then (fL_law_c15 fu L xs R R2 HR HS HN TB LN PS TC TW TG CM M SV MX ML MA MH x3) else (if (v2 &&& (31 : Int32)) = (16 : Int32) then (fL_law_c16 fu L xs R R2 HR HS HN TB LN PS TC TW TG CM M SV MX ML MA MH x3) else (if (v2 &&& (31 : Int32)) = (17 : Int32) then (fL_law_c17 fu L xs R R2 HR HS HN TB LN PS TC TW TG CM M SV MX ML MA MH x3) else (if (v2 &&& (31 : Int32)) = (18 : Int32) then (fL_law_c18 fu L xs R R2 HR HS HN TB LN PS TC TW TG CM M SV MX ML MA MH x3) else (if (v2 &&& (31 : Int32)) = (19 : Int32) then (fL_law_c19 fu L xs R R2 HR HS HN TB LN PS TC TW TG CM M SV MX ML MA MH x3) else (if (v2 &&& (31 : Int32)) = (20 : Int32) then (fL_law_c20 fu L xs R R2 HR HS HN TB LN PS TC TW TG CM M SV MX ML MA MH x3) else (if (v2 &&& (31 : Int32)) = (21 : Int32) then (fL_law_c21 fu L xs R R2 HR HS HN TB LN PS TC TW TG CM M SV MX ML MA MH x3) else (if (v2 &&& (31 : Int32)) = (22 : Int32) then (fL_law_c22 fu L xs R R2 HR HS HN TB LN PS TC TW TG CM M SV MX ML MA MH x3) else (if (v2 &&& (31 : Int32)) = (23 : Int32) then (fL_law_c23 fu L xs R R2 HR HS HN TB LN PS TC TW TG CM M SV MX ML MA MH x3) else (if (v2 &&& (31 : Int32)) = (24 : Int32) then (fL_law_c24 fu L xs R R2 HR HS HN TB LN PS TC TW TG CM M SV MX ML MA MH x3) else (if (v2 &&& (31 : Int32)) = (25 : Int32) then (fL_law_c25 fu L xs R R2 HR HS HN TB LN PS TC TW TG CM M SV MX ML MA MH x3) else (if (v2 &&& (31 : Int32)) = (26 : Int32) then (fL_law_c26 fu L xs R R2 HR HS HN TB LN PS TC TW TG CM M SV MX ML MA MH x3) else (if (v2 &&& (31 : Int32)) = (27 : Int32) then (fL_law_c27 fu L xs R R2 HR HS HN TB LN PS TC TW TG CM M SV MX ML MA MH x3) else (if (v2 &&& (31 : Int32)) = (28 : Int32) then (fL_law_c28 fu L xs R R2 HR HS HN TB LN PS TC TW TG CM M SV MX ML MA MH x3) else (if (v2 &&& (31 : Int32)) = (29 : Int32) then (fL_law_c29 fu L xs R R2 HR HS HN TB LN PS TC TW TG CM M SV MX ML MA MH x3) else (if (v2 &&& (31 : Int32)) = (30 : Int32) then (fL_law_c30 fu L xs R R2 HR HS HN TB LN PS TC TW TG CM M SV MX ML MA MH x3) else (if (v2 &&& (31 : Int32)) = (31 : Int32) then (fL_law_c31 fu L xs R R2 HR HS HN TB LN PS TC TW TG CM M SV MX ML MA MH x3) else (none)))))))))))))))))))))))))))))))))
noncomputable def fL_law_L18 (fu : Nat) (L : Nat) (xs : Nat → Int32) (t18 : (Nat → Int32) × (Nat → Int32) × (Nat → Int32) × Int32 × Int32 × (Nat → Int32) × Int32 × Int32 × (Nat → Int32) × (Nat → Int32) × (Nat → Int32) × Int32 × (Nat → Int32) × Int32 × (Nat → Int32) × Int32 × Int32 × Int64 × Int32) : Option (((Nat → Int32) × (Nat → Int32) × (Nat → Int32) × Int32 × Int32 × (Nat → Int32) × Int32 × Int32 × (Nat → Int32) × (Nat → Int32) × (Nat → Int32) × Int32 × (Nat → Int32) × Int32 × (Nat → Int32) × Int32 × Int32 × Int64 × Int32) ⊕ (Bool)) := fL_law_B fu L xs t18.1 t18.2.1 t18.2.2.1 t18.2.2.2.1 t18.2.2.2.2.1 t18.2.2.2.2.2.1 t18.2.2.2.2.2.2.1 t18.2.2.2.2.2.2.2.1 t18.2.2.2.2.2.2.2.2.1 t18.2.2.2.2.2.2.2.2.2.1 t18.2.2.2.2.2.2.2.2.2.2.1 t18.2.2.2.2.2.2.2.2.2.2.2.1 t18.2.2.2.2.2.2.2.2.2.2.2.2.1 t18.2.2.2.2.2.2.2.2.2.2.2.2.2.1 t18.2.2.2.2.2.2.2.2.2.2.2.2.2.2.1 t18.2.2.2.2.2.2.2.2.2.2.2.2.2.2.2.1 t18.2.2.2.2.2.2.2.2.2.2.2.2.2.2.2.2.1 t18.2.2.2.2.2.2.2.2.2.2.2.2.2.2.2.2.2.1 t18.2.2.2.2.2.2.2.2.2.2.2.2.2.2.2.2.2.2
theorem ksld {p : Program} {l : Launch} {e : Env} {R : Room} {s : State} {m : MethodId} {args : Array Value} {below : List Frame} {meth : Method} {c : Code} {H : Heap} {locs : List Loc} {cells slots : Nat} {Q : State → Prop} {cc : ByteArray} {pc : Nat} {ls : Array Slot} {rest : List Value} {A : Nat → Prop} {H0 : Heap} (hx : p.tables.exec = Jvm.exec) (hb : c.code = cc) {b L : Nat} {xs : Nat → Int32} (hX : va_X b L xs s H0) (hbl : b < H0.size) (hbA : ¬ A b) (hS : va_S A H0 H locs) {i x : Int32} (hv : rdA xs L i = some x) (hdg : decode cc pc = .ok (.iaload, 1))
    (kk : W p l e R s m args below meth c H locs cells slots Q (F0 m (pc + 1) ls (.int x :: rest))) : W p l e R s m args below meth c H locs cells slots Q (F0 m pc ls (.int i :: .ref b :: rest)) := by
  obtain ⟨hin, rfl⟩ := rdA_some hv
  exact va_sld hx hb hX hbl hbA hS hin hdg kk
set_option maxHeartbeats 8000000 in
set_option maxRecDepth 100000 in
theorem law_loop {p : Program} {e : Env} {s : State} {m : MethodId} {below : List Frame} {meth : Method} {c : Code} {H : Heap} {locs : List Loc} {ls : Array Slot} (l : Launch) {b L : Nat} {xs : Nat → Int32} (C0 : lw_At p s m meth c b L xs) (D : va_G) (cI : ClassId) (hK : kK D cI s) (fu : Nat) (a0 a1 a2 a3 a4 a5 a6 a7 a8 a9 a10 a11 a12 a13 a14 : Nat) (R : (Nat → Int32)) (R2 : (Nat → Int32)) (HR : (Nat → Int32)) (HS : Int32) (HN : Int32) (TB : (Nat → Int32)) (LN : Int32) (PS : Int32) (TC : (Nat → Int32)) (TW : (Nat → Int32)) (TG : (Nat → Int32)) (CM : Int32) (M : (Nat → Int32)) (SV : Int32) (MX : (Nat → Int32)) (ML : Int32) (MA : Int32) (MH : Int64) (x3 : Int32) (hf : lp (fL_law_L18 fu L xs) fu (R, R2, HR, HS, HN, TB, LN, PS, TC, TW, TG, CM, M, SV, MX, ML, MA, MH, x3) = some true)
    (hP : va_P D vwCl (wX3_X4 cI a0 a1 a2 a3 a4 a5 a6 a7 a8 a9 a10 a11 a12 a13 a14 R R2 HR HS HN TB LN PS TC TW TG CM M SV MX ML MA MH) H) (hD : va_D (fun q : Nat => s.heap.size ≤ q) (wX3_X4 cI a0 a1 a2 a3 a4 a5 a6 a7 a8 a9 a10 a11 a12 a13 a14 R R2 HR HS HN TB LN PS TC TW TG CM M SV MX ML MA MH)) (hS : va_S (fun q : Nat => s.heap.size ≤ q) s.heap H locs) (hl : lv_has ls 4 [(3, .int x3), (2, .ref a12), (1, .ref a0), (0, .ref b)]) :
    W p l e room_1 s m #[Value.ref b] below meth c H locs 15 2062 (lw_Z below #[Value.ref b] s) (F0 m 18 ls []) := by
  obtain ⟨hx, hb, hr, hml, hown, hts0, hX, hbl, hlk, hgv⟩ := id C0
  have hts : ∀ w ∈ wsL_law, w.before #[Value.ref b] s = true := fun w h => hts0 w (wsL_law_in w h)
  have hA : ∀ q : Nat, s.heap.size ≤ q → (fun q : Nat => s.heap.size ≤ q) q := fun _ h => h
  have hbA : ¬ (fun q : Nat => s.heap.size ≤ q) b := Nat.not_le.mpr hbl
  have hown : s.vm.findClass RL = some m.cls := hown
  generalize hAe : (fun q : Nat => s.heap.size ≤ q) = A at hA hbA hD hS
  have hAb : ∀ q : Nat, A q → s.heap.size ≤ q := fun q h => by rw [← hAe] at h; exact h
  have hl : lv_has ls 4 [(3, .int x3), (2, .ref a12), (1, .ref a0), (0, .ref b)] := hl
  refine klp hf (fun t18 : (Nat → Int32) × (Nat → Int32) × (Nat → Int32) × Int32 × Int32 × (Nat → Int32) × Int32 × Int32 × (Nat → Int32) × (Nat → Int32) × (Nat → Int32) × Int32 × (Nat → Int32) × Int32 × (Nat → Int32) × Int32 × Int32 × Int64 × Int32 => (wX3_X4 cI a0 a1 a2 a3 a4 a5 a6 a7 a8 a9 a10 a11 a12 a13 a14 t18.1 t18.2.1 t18.2.2.1 t18.2.2.2.1 t18.2.2.2.2.1 t18.2.2.2.2.2.1 t18.2.2.2.2.2.2.1 t18.2.2.2.2.2.2.2.1 t18.2.2.2.2.2.2.2.2.1 t18.2.2.2.2.2.2.2.2.2.1 t18.2.2.2.2.2.2.2.2.2.2.1 t18.2.2.2.2.2.2.2.2.2.2.2.1 t18.2.2.2.2.2.2.2.2.2.2.2.2.1 t18.2.2.2.2.2.2.2.2.2.2.2.2.2.1 t18.2.2.2.2.2.2.2.2.2.2.2.2.2.2.1 t18.2.2.2.2.2.2.2.2.2.2.2.2.2.2.2.1 t18.2.2.2.2.2.2.2.2.2.2.2.2.2.2.2.2.1 t18.2.2.2.2.2.2.2.2.2.2.2.2.2.2.2.2.2.1)) 4 (fun t18 : (Nat → Int32) × (Nat → Int32) × (Nat → Int32) × Int32 × Int32 × (Nat → Int32) × Int32 × Int32 × (Nat → Int32) × (Nat → Int32) × (Nat → Int32) × Int32 × (Nat → Int32) × Int32 × (Nat → Int32) × Int32 × Int32 × Int64 × Int32 => [(3, .int t18.2.2.2.2.2.2.2.2.2.2.2.2.2.2.2.2.2.2), (2, .ref a12), (1, .ref a0), (0, .ref b)]) ?_ hP hD hS hl
  intro t18 x18_ hf hI1 hO1 H locs ls hP hD hS hl
  obtain ⟨R, R2, HR, HS, HN, TB, LN, PS, TC, TW, TG, CM, M, SV, MX, ML, MA, MH, x3⟩ := t18
  have hf : fL_law_B fu L xs R R2 HR HS HN TB LN PS TC TW TG CM M SV MX ML MA MH x3 = some x18_ := hf
  unfold fL_law_B at hf
  have hP : va_P D vwCl (wX3_X4 cI a0 a1 a2 a3 a4 a5 a6 a7 a8 a9 a10 a11 a12 a13 a14 R R2 HR HS HN TB LN PS TC TW TG CM M SV MX ML MA MH) H := hP
  have hD : va_D A (wX3_X4 cI a0 a1 a2 a3 a4 a5 a6 a7 a8 a9 a10 a11 a12 a13 a14 R R2 HR HS HN TB LN PS TC TW TG CM M SV MX ML MA MH) := hD
  have hl : lv_has ls 4 [(3, .int x3), (2, .ref a12), (1, .ref a0), (0, .ref b)] := hl
  refine lv_iload_n hx hb dL_law_18 rfl (lv_at hl 0 rfl) ?_
  refine lv_aload_n hx hb dL_law_19 rfl (lv_at hl 3 rfl) ?_
  refine va_slen hx hb hX hbl hbA hS dL_law_20 ?_
  refine lv_iconst (v := (5 : Int32)) hx hb dL_law_21 (by decide) ?_
  refine lv_isub hx hb dL_law_22 ?_
  refine lv_icmp_gt (tgt := 991) hx hb dL_law_23 (by decide) (fun c416 => ?_) (fun c416 => ?_)
  · have hf := kIfT c416 hf
    refine lv_iconst (v := (1 : Int32)) hx hb dL_law_991 (by decide) ?_
    have he := hO1 _ (Option.some.inj hf).symm
    exact va_forget (fun q hq => hAb _ (hS.2.2 q hq)) (lw_ret hx hb hr hlk dL_law_992)
  · have hf := kIfF c416 hf
    refine lv_aload_n hx hb dL_law_26 rfl (lv_at hl 3 rfl) ?_
    refine lv_iload_n hx hb dL_law_27 rfl (lv_at hl 0 rfl) ?_
    obtain ⟨v417, h418, hf⟩ := kBind hf
    refine ksld hx hb hX hbl hbA hS h418 dL_law_28 ?_
    refine lv_bipush (v := (31 : Int32)) hx hb dL_law_29 (by decide) ?_
    refine lv_iand hx hb dL_law_31 ?_
    by_cases c419 : (v417 &&& (31 : Int32)) = (0 : Int32)
    · have hf := kIfT c419 hf
      unfold fL_law_c0 at hf
      refine lv_tableIn (off := 144) (tgt := 176) hx hb dL_law_32 (by rw [c419]; decide) (by rw [c419]; decide) (by rw [c419]; rfl) (by decide) ?_
      refine lv_aload_n hx hb dL_law_176 rfl (lv_at hl 2 rfl) ?_
      refine lv_aload_n hx hb dL_law_177 rfl (lv_at hl 3 rfl) ?_
      refine lv_iload_n hx hb dL_law_178 rfl (lv_at hl 0 rfl) ?_
      refine lv_iconst (v := (1 : Int32)) hx hb dL_law_179 (by decide) ?_
      refine lv_iadd hx hb dL_law_180 ?_
      obtain ⟨v420, h421, hf⟩ := kBind hf
      refine ksld hx hb hX hbl hbA hS h421 dL_law_181 ?_
      refine lv_aload_n hx hb dL_law_182 rfl (lv_at hl 3 rfl) ?_
      refine lv_iload_n hx hb dL_law_183 rfl (lv_at hl 0 rfl) ?_
      refine lv_iconst (v := (2 : Int32)) hx hb dL_law_184 (by decide) ?_
      refine lv_iadd hx hb dL_law_185 ?_
      obtain ⟨v422, h423, hf⟩ := kBind hf
      refine ksld hx hb hX hbl hbA hS h423 dL_law_186 ?_
      refine lv_aload_n hx hb dL_law_187 rfl (lv_at hl 3 rfl) ?_
      refine lv_iload_n hx hb dL_law_188 rfl (lv_at hl 0 rfl) ?_
      refine lv_iconst (v := (3 : Int32)) hx hb dL_law_189 (by decide) ?_
      refine lv_iadd hx hb dL_law_190 ?_
      obtain ⟨v424, h425, hf⟩ := kBind hf
      refine ksld hx hb hX hbl hbA hS h425 dL_law_191 ?_
      obtain ⟨v426, h427, hf⟩ := kBind hf
      refine kgoJ (wr := [(a12, .inr (4, [.ref a13, .int SV, .ref a14, .int ML, .int MA, .long MH])), (a13, .inl (cI, 896, .inl M)), (a14, .inl (cI, 80, .inl MX))]) (w2 := (wX3_X4 cI a0 a1 a2 a3 a4 a5 a6 a7 a8 a9 a10 a11 a12 a13 a14 v426.2.1 R2 v426.2.2.1 v426.2.2.2.1 v426.2.2.2.2 TB LN PS TC TW TG CM M SV MX ML MA MH)) (krunV (wc := (wX3 cI a0 a1 a2 a3 a4 a5 a6 a7 a8 a9 a10 a11 R R2 HR HS HN TB LN PS TC TW TG CM)) (As := [.int v420, .int v422, .int v424]) (rest := []) (ci := 3) hx hb hml hown hts hK (kX3_addCrane l D cI a0 a1 a2 a3 a4 a5 a6 a7 a8 a9 a10 a11 R R2 HR HS HN TB LN PS TC TW TG CM v420 v422 v424 v426 h427) gL_law_X3_addCrane rfl rfl rfl hdX3_addCrane ⟨Nat.le_of_ble_eq_true rfl, Nat.le_of_ble_eq_true rfl⟩ (hP.sub [0, 1, 2, 3, 4, 5, 6, 7, 8, 9, 10, 11] rfl) (hD.sub [0, 1, 2, 3, 4, 5, 6, 7, 8, 9, 10, 11] (by decide) rfl) rfl rfl rfl rfl hl.1 rfl (Nat.le_of_ble_eq_true rfl) dL_law_192 ⟨Nat.le_of_ble_eq_true rfl, Nat.le_of_ble_eq_true rfl⟩) hP hD hS hA [0, 1, 2, 3, 4, 5, 6, 7, 8, 9, 10, 11] [12, 13, 14] [3, 4, 5, 6, 7, 8, 9, 10, 11, 12, 13, 14, 0, 1, 2] rfl rfl (by decide) (by decide) (by decide) rfl (fun H locs hP hD hS => ?_)
      refine lv_aload_n hx hb dL_law_195 rfl (lv_at hl 1 rfl) ?_
      refine lv_aload_n hx hb dL_law_196 rfl (lv_at hl 3 rfl) ?_
      refine lv_iload_n hx hb dL_law_197 rfl (lv_at hl 0 rfl) ?_
      refine lv_iconst (v := (1 : Int32)) hx hb dL_law_198 (by decide) ?_
      refine lv_iadd hx hb dL_law_199 ?_
      obtain ⟨v428, h429, hf⟩ := kBind hf
      refine ksld hx hb hX hbl hbA hS h429 dL_law_200 ?_
      refine lv_aload_n hx hb dL_law_201 rfl (lv_at hl 3 rfl) ?_
      refine lv_iload_n hx hb dL_law_202 rfl (lv_at hl 0 rfl) ?_
      refine lv_iconst (v := (2 : Int32)) hx hb dL_law_203 (by decide) ?_
      refine lv_iadd hx hb dL_law_204 ?_
      obtain ⟨v430, h431, hf⟩ := kBind hf
      refine ksld hx hb hX hbl hbA hS h431 dL_law_205 ?_
      refine lv_aload_n hx hb dL_law_206 rfl (lv_at hl 3 rfl) ?_
      refine lv_iload_n hx hb dL_law_207 rfl (lv_at hl 0 rfl) ?_
      refine lv_iconst (v := (3 : Int32)) hx hb dL_law_208 (by decide) ?_
      refine lv_iadd hx hb dL_law_209 ?_
      obtain ⟨v432, h433, hf⟩ := kBind hf
      refine ksld hx hb hX hbl hbA hS h433 dL_law_210 ?_
      obtain ⟨v434, h435, hf⟩ := kBind hf
      refine kgoJ (wr := [(a0, .inr (3, [.ref a1, .ref a3, .ref a5, .ref a7])), (a1, .inr (1, [.ref a2])), (a2, .inl (cI, 132, .inl v426.2.1)), (a3, .inr (1, [.ref a4])), (a4, .inl (cI, 132, .inl R2)), (a5, .inr (0, [.ref a6, .int v426.2.2.2.1, .int v426.2.2.2.2])), (a6, .inl (cI, 660, .inl v426.2.2.1)), (a7, .inr (2, [.ref a8, .int LN, .int PS, .ref a9, .ref a10, .ref a11, .int CM])), (a8, .inl (cI, 80, .inl TB)), (a9, .inl (cI, 20, .inl TC)), (a10, .inl (cI, 20, .inl TW)), (a11, .inl (cI, 20, .inl TG))]) (w2 := (wX3_X4 cI a0 a1 a2 a3 a4 a5 a6 a7 a8 a9 a10 a11 a12 a13 a14 v426.2.1 R2 v426.2.2.1 v426.2.2.2.1 v426.2.2.2.2 TB LN PS TC TW TG CM v434.2.1 v434.2.2 MX ML MA MH)) (krunV (wc := (wX4 cI a12 a13 a14 M SV MX ML MA MH)) (As := [.int v428, .int v430, .int v432]) (rest := [.int v426.1]) (ci := 4) hx hb hml hown hts hK (kX4_addCrane l D cI fu a12 a13 a14 M SV MX ML MA MH v428 v430 v432 v434 h435) gL_law_X4_addCrane rfl rfl rfl hdX4_addCrane ⟨Nat.le_of_ble_eq_true rfl, Nat.le_of_ble_eq_true rfl⟩ (hP.sub [12, 13, 14] rfl) (hD.sub [12, 13, 14] (by decide) rfl) rfl rfl rfl rfl hl.1 rfl (Nat.le_of_ble_eq_true rfl) dL_law_211 ⟨Nat.le_of_ble_eq_true rfl, Nat.le_of_ble_eq_true rfl⟩) hP hD hS hA [12, 13, 14] [0, 1, 2, 3, 4, 5, 6, 7, 8, 9, 10, 11] [0, 1, 2, 3, 4, 5, 6, 7, 8, 9, 10, 11, 12, 13, 14] rfl rfl (by decide) (by decide) (by decide) rfl (fun H locs hP hD hS => ?_)
      refine lv_icmp_eq (tgt := 985) hx hb dL_law_214 (by decide) (fun c436 => ?_) (fun c436 => ?_)
      · have hf := kIfT c436 hf
        refine lv_iinc (v := x3 + (5 : Int32)) (lv' := [(3, .int (x3 + (5 : Int32))), (2, .ref a12), (1, .ref a0), (0, .ref b)]) hx hb dL_law_985 hl (k := 0) rfl rfl (by decide) rfl (fun ls hl => ?_)
        refine lv_goto (tgt := 18) hx hb dL_law_988 (by decide) ?_
        obtain ⟨z437, hz437⟩ : ∃ z : Int32, z = x3 + (5 : Int32) := ⟨_, rfl⟩
        rw [← hz437] at hf
        have he := (Option.some.inj hf).symm
        have hl : lv_has ls 4 [(3, .int z437), (2, .ref a12), (1, .ref a0), (0, .ref b)] := by rw [hz437]; exact lv_sub hl [0, 1, 2, 3] rfl
        exact hI1 _ he H locs ls hP hD hS hl
      · have hf := kIfF c436 hf
        refine lv_iconst (v := (0 : Int32)) hx hb dL_law_217 (by decide) ?_
        have he := hO1 _ (Option.some.inj hf).symm
        exact absurd he (by decide)
    have hf := kIfF c419 hf
    by_cases c438 : (v417 &&& (31 : Int32)) = (1 : Int32)
    · have hf := kIfT c438 hf
      unfold fL_law_c1 at hf
      refine lv_tableIn (off := 187) (tgt := 219) hx hb dL_law_32 (by rw [c438]; decide) (by rw [c438]; decide) (by rw [c438]; rfl) (by decide) ?_
      refine lv_aload_n hx hb dL_law_219 rfl (lv_at hl 2 rfl) ?_
      refine lv_aload_n hx hb dL_law_220 rfl (lv_at hl 3 rfl) ?_
      refine lv_iload_n hx hb dL_law_221 rfl (lv_at hl 0 rfl) ?_
      refine lv_iconst (v := (1 : Int32)) hx hb dL_law_222 (by decide) ?_
      refine lv_iadd hx hb dL_law_223 ?_
      obtain ⟨v439, h440, hf⟩ := kBind hf
      refine ksld hx hb hX hbl hbA hS h440 dL_law_224 ?_
      refine lv_aload_n hx hb dL_law_225 rfl (lv_at hl 3 rfl) ?_
      refine lv_iload_n hx hb dL_law_226 rfl (lv_at hl 0 rfl) ?_
      refine lv_iconst (v := (2 : Int32)) hx hb dL_law_227 (by decide) ?_
      refine lv_iadd hx hb dL_law_228 ?_
      obtain ⟨v441, h442, hf⟩ := kBind hf
      refine ksld hx hb hX hbl hbA hS h442 dL_law_229 ?_
      obtain ⟨v443, h444, hf⟩ := kBind hf
      refine kgoJ (wr := [(a12, .inr (4, [.ref a13, .int SV, .ref a14, .int ML, .int MA, .long MH])), (a13, .inl (cI, 896, .inl M)), (a14, .inl (cI, 80, .inl MX))]) (w2 := (wX3_X4 cI a0 a1 a2 a3 a4 a5 a6 a7 a8 a9 a10 a11 a12 a13 a14 v443.2.1 R2 v443.2.2.1 v443.2.2.2.1 v443.2.2.2.2 TB LN PS TC TW TG CM M SV MX ML MA MH)) (krunV (wc := (wX3 cI a0 a1 a2 a3 a4 a5 a6 a7 a8 a9 a10 a11 R R2 HR HS HN TB LN PS TC TW TG CM)) (As := [.int v439, .int v441]) (rest := []) (ci := 3) hx hb hml hown hts hK (kX3_setPriority l D cI a0 a1 a2 a3 a4 a5 a6 a7 a8 a9 a10 a11 R R2 HR HS HN TB LN PS TC TW TG CM v439 v441 v443 h444) gL_law_X3_setPriority rfl rfl rfl hdX3_setPriority ⟨Nat.le_of_ble_eq_true rfl, Nat.le_of_ble_eq_true rfl⟩ (hP.sub [0, 1, 2, 3, 4, 5, 6, 7, 8, 9, 10, 11] rfl) (hD.sub [0, 1, 2, 3, 4, 5, 6, 7, 8, 9, 10, 11] (by decide) rfl) rfl rfl rfl rfl hl.1 rfl (Nat.le_of_ble_eq_true rfl) dL_law_230 ⟨Nat.le_of_ble_eq_true rfl, Nat.le_of_ble_eq_true rfl⟩) hP hD hS hA [0, 1, 2, 3, 4, 5, 6, 7, 8, 9, 10, 11] [12, 13, 14] [3, 4, 5, 6, 7, 8, 9, 10, 11, 12, 13, 14, 0, 1, 2] rfl rfl (by decide) (by decide) (by decide) rfl (fun H locs hP hD hS => ?_)
      refine lv_aload_n hx hb dL_law_233 rfl (lv_at hl 1 rfl) ?_
      refine lv_aload_n hx hb dL_law_234 rfl (lv_at hl 3 rfl) ?_
      refine lv_iload_n hx hb dL_law_235 rfl (lv_at hl 0 rfl) ?_
      refine lv_iconst (v := (1 : Int32)) hx hb dL_law_236 (by decide) ?_
      refine lv_iadd hx hb dL_law_237 ?_
      obtain ⟨v445, h446, hf⟩ := kBind hf
      refine ksld hx hb hX hbl hbA hS h446 dL_law_238 ?_
      refine lv_aload_n hx hb dL_law_239 rfl (lv_at hl 3 rfl) ?_
      refine lv_iload_n hx hb dL_law_240 rfl (lv_at hl 0 rfl) ?_
      refine lv_iconst (v := (2 : Int32)) hx hb dL_law_241 (by decide) ?_
      refine lv_iadd hx hb dL_law_242 ?_
      obtain ⟨v447, h448, hf⟩ := kBind hf
      refine ksld hx hb hX hbl hbA hS h448 dL_law_243 ?_
      obtain ⟨v449, h450, hf⟩ := kBind hf
      refine kgoJ (wr := [(a0, .inr (3, [.ref a1, .ref a3, .ref a5, .ref a7])), (a1, .inr (1, [.ref a2])), (a2, .inl (cI, 132, .inl v443.2.1)), (a3, .inr (1, [.ref a4])), (a4, .inl (cI, 132, .inl R2)), (a5, .inr (0, [.ref a6, .int v443.2.2.2.1, .int v443.2.2.2.2])), (a6, .inl (cI, 660, .inl v443.2.2.1)), (a7, .inr (2, [.ref a8, .int LN, .int PS, .ref a9, .ref a10, .ref a11, .int CM])), (a8, .inl (cI, 80, .inl TB)), (a9, .inl (cI, 20, .inl TC)), (a10, .inl (cI, 20, .inl TW)), (a11, .inl (cI, 20, .inl TG))]) (w2 := (wX3_X4 cI a0 a1 a2 a3 a4 a5 a6 a7 a8 a9 a10 a11 a12 a13 a14 v443.2.1 R2 v443.2.2.1 v443.2.2.2.1 v443.2.2.2.2 TB LN PS TC TW TG CM v449.2.1 v449.2.2 MX ML MA MH)) (krunV (wc := (wX4 cI a12 a13 a14 M SV MX ML MA MH)) (As := [.int v445, .int v447]) (rest := [.int v443.1]) (ci := 4) hx hb hml hown hts hK (kX4_setPriority l D cI fu a12 a13 a14 M SV MX ML MA MH v445 v447 v449 h450) gL_law_X4_setPriority rfl rfl rfl hdX4_setPriority ⟨Nat.le_of_ble_eq_true rfl, Nat.le_of_ble_eq_true rfl⟩ (hP.sub [12, 13, 14] rfl) (hD.sub [12, 13, 14] (by decide) rfl) rfl rfl rfl rfl hl.1 rfl (Nat.le_of_ble_eq_true rfl) dL_law_244 ⟨Nat.le_of_ble_eq_true rfl, Nat.le_of_ble_eq_true rfl⟩) hP hD hS hA [12, 13, 14] [0, 1, 2, 3, 4, 5, 6, 7, 8, 9, 10, 11] [0, 1, 2, 3, 4, 5, 6, 7, 8, 9, 10, 11, 12, 13, 14] rfl rfl (by decide) (by decide) (by decide) rfl (fun H locs hP hD hS => ?_)
      refine lv_icmp_eq (tgt := 985) hx hb dL_law_247 (by decide) (fun c451 => ?_) (fun c451 => ?_)
      · have hf := kIfT c451 hf
        refine lv_iinc (v := x3 + (5 : Int32)) (lv' := [(3, .int (x3 + (5 : Int32))), (2, .ref a12), (1, .ref a0), (0, .ref b)]) hx hb dL_law_985 hl (k := 0) rfl rfl (by decide) rfl (fun ls hl => ?_)
        refine lv_goto (tgt := 18) hx hb dL_law_988 (by decide) ?_
        obtain ⟨z452, hz452⟩ : ∃ z : Int32, z = x3 + (5 : Int32) := ⟨_, rfl⟩
        rw [← hz452] at hf
        have he := (Option.some.inj hf).symm
        have hl : lv_has ls 4 [(3, .int z452), (2, .ref a12), (1, .ref a0), (0, .ref b)] := by rw [hz452]; exact lv_sub hl [0, 1, 2, 3] rfl
        exact hI1 _ he H locs ls hP hD hS hl
      · have hf := kIfF c451 hf
        refine lv_iconst (v := (0 : Int32)) hx hb dL_law_250 (by decide) ?_
        have he := hO1 _ (Option.some.inj hf).symm
        exact absurd he (by decide)
    have hf := kIfF c438 hf
    by_cases c453 : (v417 &&& (31 : Int32)) = (2 : Int32)
    · have hf := kIfT c453 hf
      unfold fL_law_c2 at hf
      refine lv_tableIn (off := 220) (tgt := 252) hx hb dL_law_32 (by rw [c453]; decide) (by rw [c453]; decide) (by rw [c453]; rfl) (by decide) ?_
      refine lv_aload_n hx hb dL_law_252 rfl (lv_at hl 2 rfl) ?_
      refine lv_aload_n hx hb dL_law_253 rfl (lv_at hl 3 rfl) ?_
      refine lv_iload_n hx hb dL_law_254 rfl (lv_at hl 0 rfl) ?_
      refine lv_iconst (v := (1 : Int32)) hx hb dL_law_255 (by decide) ?_
      refine lv_iadd hx hb dL_law_256 ?_
      obtain ⟨v454, h455, hf⟩ := kBind hf
      refine ksld hx hb hX hbl hbA hS h455 dL_law_257 ?_
      refine lv_aload_n hx hb dL_law_258 rfl (lv_at hl 3 rfl) ?_
      refine lv_iload_n hx hb dL_law_259 rfl (lv_at hl 0 rfl) ?_
      refine lv_iconst (v := (2 : Int32)) hx hb dL_law_260 (by decide) ?_
      refine lv_iadd hx hb dL_law_261 ?_
      obtain ⟨v456, h457, hf⟩ := kBind hf
      refine ksld hx hb hX hbl hbA hS h457 dL_law_262 ?_
      refine lv_aload_n hx hb dL_law_263 rfl (lv_at hl 3 rfl) ?_
      refine lv_iload_n hx hb dL_law_264 rfl (lv_at hl 0 rfl) ?_
      refine lv_iconst (v := (3 : Int32)) hx hb dL_law_265 (by decide) ?_
      refine lv_iadd hx hb dL_law_266 ?_
      obtain ⟨v458, h459, hf⟩ := kBind hf
      refine ksld hx hb hX hbl hbA hS h459 dL_law_267 ?_
      refine lv_aload_n hx hb dL_law_268 rfl (lv_at hl 3 rfl) ?_
      refine lv_iload_n hx hb dL_law_269 rfl (lv_at hl 0 rfl) ?_
      refine lv_iconst (v := (4 : Int32)) hx hb dL_law_270 (by decide) ?_
      refine lv_iadd hx hb dL_law_271 ?_
      obtain ⟨v460, h461, hf⟩ := kBind hf
      refine ksld hx hb hX hbl hbA hS h461 dL_law_272 ?_
      obtain ⟨v462, h463, hf⟩ := kBind hf
      refine kgoJ (wr := [(a12, .inr (4, [.ref a13, .int SV, .ref a14, .int ML, .int MA, .long MH])), (a13, .inl (cI, 896, .inl M)), (a14, .inl (cI, 80, .inl MX))]) (w2 := (wX3_X4 cI a0 a1 a2 a3 a4 a5 a6 a7 a8 a9 a10 a11 a12 a13 a14 v462.2.1 v462.2.2.1 v462.2.2.2.1 v462.2.2.2.2.1 v462.2.2.2.2.2 TB LN PS TC TW TG CM M SV MX ML MA MH)) (krunV (wc := (wX3 cI a0 a1 a2 a3 a4 a5 a6 a7 a8 a9 a10 a11 R R2 HR HS HN TB LN PS TC TW TG CM)) (As := [.int v454, .int v456, .int v458, .int v460]) (rest := []) (ci := 3) hx hb hml hown hts hK (kX3_setArc l D cI fu a0 a1 a2 a3 a4 a5 a6 a7 a8 a9 a10 a11 R R2 HR HS HN TB LN PS TC TW TG CM v454 v456 v458 v460 v462 h463) gL_law_X3_setArc rfl rfl rfl hdX3_setArc ⟨Nat.le_of_ble_eq_true rfl, Nat.le_of_ble_eq_true rfl⟩ (hP.sub [0, 1, 2, 3, 4, 5, 6, 7, 8, 9, 10, 11] rfl) (hD.sub [0, 1, 2, 3, 4, 5, 6, 7, 8, 9, 10, 11] (by decide) rfl) rfl rfl rfl rfl hl.1 rfl (Nat.le_of_ble_eq_true rfl) dL_law_273 ⟨Nat.le_of_ble_eq_true rfl, Nat.le_of_ble_eq_true rfl⟩) hP hD hS hA [0, 1, 2, 3, 4, 5, 6, 7, 8, 9, 10, 11] [12, 13, 14] [3, 4, 5, 6, 7, 8, 9, 10, 11, 12, 13, 14, 0, 1, 2] rfl rfl (by decide) (by decide) (by decide) rfl (fun H locs hP hD hS => ?_)
      refine lv_aload_n hx hb dL_law_276 rfl (lv_at hl 1 rfl) ?_
      refine lv_aload_n hx hb dL_law_277 rfl (lv_at hl 3 rfl) ?_
      refine lv_iload_n hx hb dL_law_278 rfl (lv_at hl 0 rfl) ?_
      refine lv_iconst (v := (1 : Int32)) hx hb dL_law_279 (by decide) ?_
      refine lv_iadd hx hb dL_law_280 ?_
      obtain ⟨v464, h465, hf⟩ := kBind hf
      refine ksld hx hb hX hbl hbA hS h465 dL_law_281 ?_
      refine lv_aload_n hx hb dL_law_282 rfl (lv_at hl 3 rfl) ?_
      refine lv_iload_n hx hb dL_law_283 rfl (lv_at hl 0 rfl) ?_
      refine lv_iconst (v := (2 : Int32)) hx hb dL_law_284 (by decide) ?_
      refine lv_iadd hx hb dL_law_285 ?_
      obtain ⟨v466, h467, hf⟩ := kBind hf
      refine ksld hx hb hX hbl hbA hS h467 dL_law_286 ?_
      refine lv_aload_n hx hb dL_law_287 rfl (lv_at hl 3 rfl) ?_
      refine lv_iload_n hx hb dL_law_288 rfl (lv_at hl 0 rfl) ?_
      refine lv_iconst (v := (3 : Int32)) hx hb dL_law_289 (by decide) ?_
      refine lv_iadd hx hb dL_law_290 ?_
      obtain ⟨v468, h469, hf⟩ := kBind hf
      refine ksld hx hb hX hbl hbA hS h469 dL_law_291 ?_
      refine lv_aload_n hx hb dL_law_292 rfl (lv_at hl 3 rfl) ?_
      refine lv_iload_n hx hb dL_law_293 rfl (lv_at hl 0 rfl) ?_
      refine lv_iconst (v := (4 : Int32)) hx hb dL_law_294 (by decide) ?_
      refine lv_iadd hx hb dL_law_295 ?_
      obtain ⟨v470, h471, hf⟩ := kBind hf
      refine ksld hx hb hX hbl hbA hS h471 dL_law_296 ?_
      obtain ⟨v472, h473, hf⟩ := kBind hf
      refine kgoJ (wr := [(a0, .inr (3, [.ref a1, .ref a3, .ref a5, .ref a7])), (a1, .inr (1, [.ref a2])), (a2, .inl (cI, 132, .inl v462.2.1)), (a3, .inr (1, [.ref a4])), (a4, .inl (cI, 132, .inl v462.2.2.1)), (a5, .inr (0, [.ref a6, .int v462.2.2.2.2.1, .int v462.2.2.2.2.2])), (a6, .inl (cI, 660, .inl v462.2.2.2.1)), (a7, .inr (2, [.ref a8, .int LN, .int PS, .ref a9, .ref a10, .ref a11, .int CM])), (a8, .inl (cI, 80, .inl TB)), (a9, .inl (cI, 20, .inl TC)), (a10, .inl (cI, 20, .inl TW)), (a11, .inl (cI, 20, .inl TG))]) (w2 := (wX3_X4 cI a0 a1 a2 a3 a4 a5 a6 a7 a8 a9 a10 a11 a12 a13 a14 v462.2.1 v462.2.2.1 v462.2.2.2.1 v462.2.2.2.2.1 v462.2.2.2.2.2 TB LN PS TC TW TG CM v472.2.1 v472.2.2 MX ML MA MH)) (krunV (wc := (wX4 cI a12 a13 a14 M SV MX ML MA MH)) (As := [.int v464, .int v466, .int v468, .int v470]) (rest := [.int v462.1]) (ci := 4) hx hb hml hown hts hK (kX4_setArc l D cI fu a12 a13 a14 M SV MX ML MA MH v464 v466 v468 v470 v472 h473) gL_law_X4_setArc rfl rfl rfl hdX4_setArc ⟨Nat.le_of_ble_eq_true rfl, Nat.le_of_ble_eq_true rfl⟩ (hP.sub [12, 13, 14] rfl) (hD.sub [12, 13, 14] (by decide) rfl) rfl rfl rfl rfl hl.1 rfl (Nat.le_of_ble_eq_true rfl) dL_law_297 ⟨Nat.le_of_ble_eq_true rfl, Nat.le_of_ble_eq_true rfl⟩) hP hD hS hA [12, 13, 14] [0, 1, 2, 3, 4, 5, 6, 7, 8, 9, 10, 11] [0, 1, 2, 3, 4, 5, 6, 7, 8, 9, 10, 11, 12, 13, 14] rfl rfl (by decide) (by decide) (by decide) rfl (fun H locs hP hD hS => ?_)
      refine lv_icmp_eq (tgt := 985) hx hb dL_law_300 (by decide) (fun c474 => ?_) (fun c474 => ?_)
      · have hf := kIfT c474 hf
        refine lv_iinc (v := x3 + (5 : Int32)) (lv' := [(3, .int (x3 + (5 : Int32))), (2, .ref a12), (1, .ref a0), (0, .ref b)]) hx hb dL_law_985 hl (k := 0) rfl rfl (by decide) rfl (fun ls hl => ?_)
        refine lv_goto (tgt := 18) hx hb dL_law_988 (by decide) ?_
        obtain ⟨z475, hz475⟩ : ∃ z : Int32, z = x3 + (5 : Int32) := ⟨_, rfl⟩
        rw [← hz475] at hf
        have he := (Option.some.inj hf).symm
        have hl : lv_has ls 4 [(3, .int z475), (2, .ref a12), (1, .ref a0), (0, .ref b)] := by rw [hz475]; exact lv_sub hl [0, 1, 2, 3] rfl
        exact hI1 _ he H locs ls hP hD hS hl
      · have hf := kIfF c474 hf
        refine lv_iconst (v := (0 : Int32)) hx hb dL_law_303 (by decide) ?_
        have he := hO1 _ (Option.some.inj hf).symm
        exact absurd he (by decide)
    have hf := kIfF c453 hf
    by_cases c476 : (v417 &&& (31 : Int32)) = (3 : Int32)
    · have hf := kIfT c476 hf
      unfold fL_law_c3 at hf
      refine lv_tableIn (off := 273) (tgt := 305) hx hb dL_law_32 (by rw [c476]; decide) (by rw [c476]; decide) (by rw [c476]; rfl) (by decide) ?_
      refine lv_aload_n hx hb dL_law_305 rfl (lv_at hl 2 rfl) ?_
      refine lv_aload_n hx hb dL_law_306 rfl (lv_at hl 3 rfl) ?_
      refine lv_iload_n hx hb dL_law_307 rfl (lv_at hl 0 rfl) ?_
      refine lv_iconst (v := (1 : Int32)) hx hb dL_law_308 (by decide) ?_
      refine lv_iadd hx hb dL_law_309 ?_
      obtain ⟨v477, h478, hf⟩ := kBind hf
      refine ksld hx hb hX hbl hbA hS h478 dL_law_310 ?_
      refine lv_aload_n hx hb dL_law_311 rfl (lv_at hl 3 rfl) ?_
      refine lv_iload_n hx hb dL_law_312 rfl (lv_at hl 0 rfl) ?_
      refine lv_iconst (v := (2 : Int32)) hx hb dL_law_313 (by decide) ?_
      refine lv_iadd hx hb dL_law_314 ?_
      obtain ⟨v479, h480, hf⟩ := kBind hf
      refine ksld hx hb hX hbl hbA hS h480 dL_law_315 ?_
      obtain ⟨v481, h482, hf⟩ := kBind hf
      refine kgoJ (wr := [(a12, .inr (4, [.ref a13, .int SV, .ref a14, .int ML, .int MA, .long MH])), (a13, .inl (cI, 896, .inl M)), (a14, .inl (cI, 80, .inl MX))]) (w2 := (wX3_X4 cI a0 a1 a2 a3 a4 a5 a6 a7 a8 a9 a10 a11 a12 a13 a14 v481.2.1 R2 v481.2.2.1 v481.2.2.2.1 v481.2.2.2.2 TB LN PS TC TW TG CM M SV MX ML MA MH)) (krunV (wc := (wX3 cI a0 a1 a2 a3 a4 a5 a6 a7 a8 a9 a10 a11 R R2 HR HS HN TB LN PS TC TW TG CM)) (As := [.int v477, .int v479]) (rest := []) (ci := 3) hx hb hml hown hts hK (kX3_removeArc l D cI a0 a1 a2 a3 a4 a5 a6 a7 a8 a9 a10 a11 R R2 HR HS HN TB LN PS TC TW TG CM v477 v479 v481 h482) gL_law_X3_removeArc rfl rfl rfl hdX3_removeArc ⟨Nat.le_of_ble_eq_true rfl, Nat.le_of_ble_eq_true rfl⟩ (hP.sub [0, 1, 2, 3, 4, 5, 6, 7, 8, 9, 10, 11] rfl) (hD.sub [0, 1, 2, 3, 4, 5, 6, 7, 8, 9, 10, 11] (by decide) rfl) rfl rfl rfl rfl hl.1 rfl (Nat.le_of_ble_eq_true rfl) dL_law_316 ⟨Nat.le_of_ble_eq_true rfl, Nat.le_of_ble_eq_true rfl⟩) hP hD hS hA [0, 1, 2, 3, 4, 5, 6, 7, 8, 9, 10, 11] [12, 13, 14] [3, 4, 5, 6, 7, 8, 9, 10, 11, 12, 13, 14, 0, 1, 2] rfl rfl (by decide) (by decide) (by decide) rfl (fun H locs hP hD hS => ?_)
      refine lv_aload_n hx hb dL_law_319 rfl (lv_at hl 1 rfl) ?_
      refine lv_aload_n hx hb dL_law_320 rfl (lv_at hl 3 rfl) ?_
      refine lv_iload_n hx hb dL_law_321 rfl (lv_at hl 0 rfl) ?_
      refine lv_iconst (v := (1 : Int32)) hx hb dL_law_322 (by decide) ?_
      refine lv_iadd hx hb dL_law_323 ?_
      obtain ⟨v483, h484, hf⟩ := kBind hf
      refine ksld hx hb hX hbl hbA hS h484 dL_law_324 ?_
      refine lv_aload_n hx hb dL_law_325 rfl (lv_at hl 3 rfl) ?_
      refine lv_iload_n hx hb dL_law_326 rfl (lv_at hl 0 rfl) ?_
      refine lv_iconst (v := (2 : Int32)) hx hb dL_law_327 (by decide) ?_
      refine lv_iadd hx hb dL_law_328 ?_
      obtain ⟨v485, h486, hf⟩ := kBind hf
      refine ksld hx hb hX hbl hbA hS h486 dL_law_329 ?_
      obtain ⟨v487, h488, hf⟩ := kBind hf
      refine kgoJ (wr := [(a0, .inr (3, [.ref a1, .ref a3, .ref a5, .ref a7])), (a1, .inr (1, [.ref a2])), (a2, .inl (cI, 132, .inl v481.2.1)), (a3, .inr (1, [.ref a4])), (a4, .inl (cI, 132, .inl R2)), (a5, .inr (0, [.ref a6, .int v481.2.2.2.1, .int v481.2.2.2.2])), (a6, .inl (cI, 660, .inl v481.2.2.1)), (a7, .inr (2, [.ref a8, .int LN, .int PS, .ref a9, .ref a10, .ref a11, .int CM])), (a8, .inl (cI, 80, .inl TB)), (a9, .inl (cI, 20, .inl TC)), (a10, .inl (cI, 20, .inl TW)), (a11, .inl (cI, 20, .inl TG))]) (w2 := (wX3_X4 cI a0 a1 a2 a3 a4 a5 a6 a7 a8 a9 a10 a11 a12 a13 a14 v481.2.1 R2 v481.2.2.1 v481.2.2.2.1 v481.2.2.2.2 TB LN PS TC TW TG CM v487.2.1 v487.2.2 MX ML MA MH)) (krunV (wc := (wX4 cI a12 a13 a14 M SV MX ML MA MH)) (As := [.int v483, .int v485]) (rest := [.int v481.1]) (ci := 4) hx hb hml hown hts hK (kX4_removeArc l D cI fu a12 a13 a14 M SV MX ML MA MH v483 v485 v487 h488) gL_law_X4_removeArc rfl rfl rfl hdX4_removeArc ⟨Nat.le_of_ble_eq_true rfl, Nat.le_of_ble_eq_true rfl⟩ (hP.sub [12, 13, 14] rfl) (hD.sub [12, 13, 14] (by decide) rfl) rfl rfl rfl rfl hl.1 rfl (Nat.le_of_ble_eq_true rfl) dL_law_330 ⟨Nat.le_of_ble_eq_true rfl, Nat.le_of_ble_eq_true rfl⟩) hP hD hS hA [12, 13, 14] [0, 1, 2, 3, 4, 5, 6, 7, 8, 9, 10, 11] [0, 1, 2, 3, 4, 5, 6, 7, 8, 9, 10, 11, 12, 13, 14] rfl rfl (by decide) (by decide) (by decide) rfl (fun H locs hP hD hS => ?_)
      refine lv_icmp_eq (tgt := 985) hx hb dL_law_333 (by decide) (fun c489 => ?_) (fun c489 => ?_)
      · have hf := kIfT c489 hf
        refine lv_iinc (v := x3 + (5 : Int32)) (lv' := [(3, .int (x3 + (5 : Int32))), (2, .ref a12), (1, .ref a0), (0, .ref b)]) hx hb dL_law_985 hl (k := 0) rfl rfl (by decide) rfl (fun ls hl => ?_)
        refine lv_goto (tgt := 18) hx hb dL_law_988 (by decide) ?_
        obtain ⟨z490, hz490⟩ : ∃ z : Int32, z = x3 + (5 : Int32) := ⟨_, rfl⟩
        rw [← hz490] at hf
        have he := (Option.some.inj hf).symm
        have hl : lv_has ls 4 [(3, .int z490), (2, .ref a12), (1, .ref a0), (0, .ref b)] := by rw [hz490]; exact lv_sub hl [0, 1, 2, 3] rfl
        exact hI1 _ he H locs ls hP hD hS hl
      · have hf := kIfF c489 hf
        refine lv_iconst (v := (0 : Int32)) hx hb dL_law_336 (by decide) ?_
        have he := hO1 _ (Option.some.inj hf).symm
        exact absurd he (by decide)
    have hf := kIfF c476 hf
    by_cases c491 : (v417 &&& (31 : Int32)) = (4 : Int32)
    · have hf := kIfT c491 hf
      unfold fL_law_c4 at hf
      refine lv_tableIn (off := 306) (tgt := 338) hx hb dL_law_32 (by rw [c491]; decide) (by rw [c491]; decide) (by rw [c491]; rfl) (by decide) ?_
      refine lv_aload_n hx hb dL_law_338 rfl (lv_at hl 2 rfl) ?_
      obtain ⟨v492, h493, hf⟩ := kBind hf
      refine kgoR (krunV (wc := (wX3 cI a0 a1 a2 a3 a4 a5 a6 a7 a8 a9 a10 a11 R R2 HR HS HN TB LN PS TC TW TG CM)) (As := []) (rest := []) (ci := 3) hx hb hml hown hts hK (kX3_cranes l D cI a0 a1 a2 a3 a4 a5 a6 a7 a8 a9 a10 a11 R R2 HR HS HN TB LN PS TC TW TG CM v492 h493) gL_law_X3_cranes rfl rfl rfl hdX3_cranes ⟨Nat.le_of_ble_eq_true rfl, Nat.le_of_ble_eq_true rfl⟩ (hP.sub [0, 1, 2, 3, 4, 5, 6, 7, 8, 9, 10, 11] rfl) (hD.sub [0, 1, 2, 3, 4, 5, 6, 7, 8, 9, 10, 11] (by decide) rfl) rfl rfl rfl rfl hl.1 rfl (Nat.le_of_ble_eq_true rfl) dL_law_339 ⟨Nat.le_of_ble_eq_true rfl, Nat.le_of_ble_eq_true rfl⟩) hP hD hS hA [0, 1, 2, 3, 4, 5, 6, 7, 8, 9, 10, 11] rfl (fun H locs hP hS => ?_)
      refine lv_aload_n hx hb dL_law_342 rfl (lv_at hl 1 rfl) ?_
      obtain ⟨v494, h495, hf⟩ := kBind hf
      refine kgoR (krunV (wc := (wX4 cI a12 a13 a14 M SV MX ML MA MH)) (As := []) (rest := [.int v492]) (ci := 4) hx hb hml hown hts hK (kX4_cranes l D cI a12 a13 a14 M SV MX ML MA MH v494 h495) gL_law_X4_cranes rfl rfl rfl hdX4_cranes ⟨Nat.le_of_ble_eq_true rfl, Nat.le_of_ble_eq_true rfl⟩ (hP.sub [12, 13, 14] rfl) (hD.sub [12, 13, 14] (by decide) rfl) rfl rfl rfl rfl hl.1 rfl (Nat.le_of_ble_eq_true rfl) dL_law_343 ⟨Nat.le_of_ble_eq_true rfl, Nat.le_of_ble_eq_true rfl⟩) hP hD hS hA [12, 13, 14] rfl (fun H locs hP hS => ?_)
      refine lv_icmp_eq (tgt := 985) hx hb dL_law_346 (by decide) (fun c496 => ?_) (fun c496 => ?_)
      · have hf := kIfT c496 hf
        refine lv_iinc (v := x3 + (5 : Int32)) (lv' := [(3, .int (x3 + (5 : Int32))), (2, .ref a12), (1, .ref a0), (0, .ref b)]) hx hb dL_law_985 hl (k := 0) rfl rfl (by decide) rfl (fun ls hl => ?_)
        refine lv_goto (tgt := 18) hx hb dL_law_988 (by decide) ?_
        obtain ⟨z497, hz497⟩ : ∃ z : Int32, z = x3 + (5 : Int32) := ⟨_, rfl⟩
        rw [← hz497] at hf
        have he := (Option.some.inj hf).symm
        have hl : lv_has ls 4 [(3, .int z497), (2, .ref a12), (1, .ref a0), (0, .ref b)] := by rw [hz497]; exact lv_sub hl [0, 1, 2, 3] rfl
        exact hI1 _ he H locs ls hP hD hS hl
      · have hf := kIfF c496 hf
        refine lv_iconst (v := (0 : Int32)) hx hb dL_law_349 (by decide) ?_
        have he := hO1 _ (Option.some.inj hf).symm
        exact absurd he (by decide)
    have hf := kIfF c491 hf
    by_cases c498 : (v417 &&& (31 : Int32)) = (5 : Int32)
    · have hf := kIfT c498 hf
      unfold fL_law_c5 at hf
      refine lv_tableIn (off := 319) (tgt := 351) hx hb dL_law_32 (by rw [c498]; decide) (by rw [c498]; decide) (by rw [c498]; rfl) (by decide) ?_
      refine lv_aload_n hx hb dL_law_351 rfl (lv_at hl 2 rfl) ?_
      refine lv_aload_n hx hb dL_law_352 rfl (lv_at hl 3 rfl) ?_
      refine lv_iload_n hx hb dL_law_353 rfl (lv_at hl 0 rfl) ?_
      refine lv_iconst (v := (1 : Int32)) hx hb dL_law_354 (by decide) ?_
      refine lv_iadd hx hb dL_law_355 ?_
      obtain ⟨v499, h500, hf⟩ := kBind hf
      refine ksld hx hb hX hbl hbA hS h500 dL_law_356 ?_
      refine lv_aload_n hx hb dL_law_357 rfl (lv_at hl 3 rfl) ?_
      refine lv_iload_n hx hb dL_law_358 rfl (lv_at hl 0 rfl) ?_
      refine lv_iconst (v := (2 : Int32)) hx hb dL_law_359 (by decide) ?_
      refine lv_iadd hx hb dL_law_360 ?_
      obtain ⟨v501, h502, hf⟩ := kBind hf
      refine ksld hx hb hX hbl hbA hS h502 dL_law_361 ?_
      obtain ⟨v503, h504, hf⟩ := kBind hf
      refine kgoR (krunV (wc := (wX3 cI a0 a1 a2 a3 a4 a5 a6 a7 a8 a9 a10 a11 R R2 HR HS HN TB LN PS TC TW TG CM)) (As := [.int v499, .int v501]) (rest := []) (ci := 3) hx hb hml hown hts hK (kX3_crane l D cI fu a0 a1 a2 a3 a4 a5 a6 a7 a8 a9 a10 a11 R R2 HR HS HN TB LN PS TC TW TG CM v499 v501 v503 h504) gL_law_X3_crane rfl rfl rfl hdX3_crane ⟨Nat.le_of_ble_eq_true rfl, Nat.le_of_ble_eq_true rfl⟩ (hP.sub [0, 1, 2, 3, 4, 5, 6, 7, 8, 9, 10, 11] rfl) (hD.sub [0, 1, 2, 3, 4, 5, 6, 7, 8, 9, 10, 11] (by decide) rfl) rfl rfl rfl rfl hl.1 rfl (Nat.le_of_ble_eq_true rfl) dL_law_362 ⟨Nat.le_of_ble_eq_true rfl, Nat.le_of_ble_eq_true rfl⟩) hP hD hS hA [0, 1, 2, 3, 4, 5, 6, 7, 8, 9, 10, 11] rfl (fun H locs hP hS => ?_)
      refine lv_aload_n hx hb dL_law_365 rfl (lv_at hl 1 rfl) ?_
      refine lv_aload_n hx hb dL_law_366 rfl (lv_at hl 3 rfl) ?_
      refine lv_iload_n hx hb dL_law_367 rfl (lv_at hl 0 rfl) ?_
      refine lv_iconst (v := (1 : Int32)) hx hb dL_law_368 (by decide) ?_
      refine lv_iadd hx hb dL_law_369 ?_
      obtain ⟨v505, h506, hf⟩ := kBind hf
      refine ksld hx hb hX hbl hbA hS h506 dL_law_370 ?_
      refine lv_aload_n hx hb dL_law_371 rfl (lv_at hl 3 rfl) ?_
      refine lv_iload_n hx hb dL_law_372 rfl (lv_at hl 0 rfl) ?_
      refine lv_iconst (v := (2 : Int32)) hx hb dL_law_373 (by decide) ?_
      refine lv_iadd hx hb dL_law_374 ?_
      obtain ⟨v507, h508, hf⟩ := kBind hf
      refine ksld hx hb hX hbl hbA hS h508 dL_law_375 ?_
      obtain ⟨v509, h510, hf⟩ := kBind hf
      refine kgoR (krunV (wc := (wX4 cI a12 a13 a14 M SV MX ML MA MH)) (As := [.int v505, .int v507]) (rest := [.int v503]) (ci := 4) hx hb hml hown hts hK (kX4_crane l D cI fu a12 a13 a14 M SV MX ML MA MH v505 v507 v509 h510) gL_law_X4_crane rfl rfl rfl hdX4_crane ⟨Nat.le_of_ble_eq_true rfl, Nat.le_of_ble_eq_true rfl⟩ (hP.sub [12, 13, 14] rfl) (hD.sub [12, 13, 14] (by decide) rfl) rfl rfl rfl rfl hl.1 rfl (Nat.le_of_ble_eq_true rfl) dL_law_376 ⟨Nat.le_of_ble_eq_true rfl, Nat.le_of_ble_eq_true rfl⟩) hP hD hS hA [12, 13, 14] rfl (fun H locs hP hS => ?_)
      refine lv_icmp_eq (tgt := 985) hx hb dL_law_379 (by decide) (fun c511 => ?_) (fun c511 => ?_)
      · have hf := kIfT c511 hf
        refine lv_iinc (v := x3 + (5 : Int32)) (lv' := [(3, .int (x3 + (5 : Int32))), (2, .ref a12), (1, .ref a0), (0, .ref b)]) hx hb dL_law_985 hl (k := 0) rfl rfl (by decide) rfl (fun ls hl => ?_)
        refine lv_goto (tgt := 18) hx hb dL_law_988 (by decide) ?_
        obtain ⟨z512, hz512⟩ : ∃ z : Int32, z = x3 + (5 : Int32) := ⟨_, rfl⟩
        rw [← hz512] at hf
        have he := (Option.some.inj hf).symm
        have hl : lv_has ls 4 [(3, .int z512), (2, .ref a12), (1, .ref a0), (0, .ref b)] := by rw [hz512]; exact lv_sub hl [0, 1, 2, 3] rfl
        exact hI1 _ he H locs ls hP hD hS hl
      · have hf := kIfF c511 hf
        refine lv_iconst (v := (0 : Int32)) hx hb dL_law_382 (by decide) ?_
        have he := hO1 _ (Option.some.inj hf).symm
        exact absurd he (by decide)
    have hf := kIfF c498 hf
    by_cases c513 : (v417 &&& (31 : Int32)) = (6 : Int32)
    · have hf := kIfT c513 hf
      unfold fL_law_c6 at hf
      refine lv_tableIn (off := 352) (tgt := 384) hx hb dL_law_32 (by rw [c513]; decide) (by rw [c513]; decide) (by rw [c513]; rfl) (by decide) ?_
      refine lv_aload_n hx hb dL_law_384 rfl (lv_at hl 2 rfl) ?_
      refine lv_aload_n hx hb dL_law_385 rfl (lv_at hl 3 rfl) ?_
      refine lv_iload_n hx hb dL_law_386 rfl (lv_at hl 0 rfl) ?_
      refine lv_iconst (v := (1 : Int32)) hx hb dL_law_387 (by decide) ?_
      refine lv_iadd hx hb dL_law_388 ?_
      obtain ⟨v514, h515, hf⟩ := kBind hf
      refine ksld hx hb hX hbl hbA hS h515 dL_law_389 ?_
      refine lv_aload_n hx hb dL_law_390 rfl (lv_at hl 3 rfl) ?_
      refine lv_iload_n hx hb dL_law_391 rfl (lv_at hl 0 rfl) ?_
      refine lv_iconst (v := (2 : Int32)) hx hb dL_law_392 (by decide) ?_
      refine lv_iadd hx hb dL_law_393 ?_
      obtain ⟨v516, h517, hf⟩ := kBind hf
      refine ksld hx hb hX hbl hbA hS h517 dL_law_394 ?_
      refine lv_aload_n hx hb dL_law_395 rfl (lv_at hl 3 rfl) ?_
      refine lv_iload_n hx hb dL_law_396 rfl (lv_at hl 0 rfl) ?_
      refine lv_iconst (v := (3 : Int32)) hx hb dL_law_397 (by decide) ?_
      refine lv_iadd hx hb dL_law_398 ?_
      obtain ⟨v518, h519, hf⟩ := kBind hf
      refine ksld hx hb hX hbl hbA hS h519 dL_law_399 ?_
      refine lv_if_eq (tgt := 407) hx hb dL_law_400 (by decide) (fun c520 => ?_) (fun c520 => ?_)
      · have hf := kIfT c520 hf
        refine lv_iconst (v := (0 : Int32)) hx hb dL_law_407 (by decide) ?_
        obtain ⟨v521, h522, hf⟩ := kBind hf
        refine kgoR (krunV (wc := (wX3 cI a0 a1 a2 a3 a4 a5 a6 a7 a8 a9 a10 a11 R R2 HR HS HN TB LN PS TC TW TG CM)) (As := [.int v514, .int v516, .int (bI false)]) (rest := []) (ci := 3) hx hb hml hown hts hK (kX3_arc l D cI a0 a1 a2 a3 a4 a5 a6 a7 a8 a9 a10 a11 R R2 HR HS HN TB LN PS TC TW TG CM v514 v516 false v521 h522) gL_law_X3_arc rfl rfl rfl hdX3_arc ⟨Nat.le_of_ble_eq_true rfl, Nat.le_of_ble_eq_true rfl⟩ (hP.sub [0, 1, 2, 3, 4, 5, 6, 7, 8, 9, 10, 11] rfl) (hD.sub [0, 1, 2, 3, 4, 5, 6, 7, 8, 9, 10, 11] (by decide) rfl) rfl rfl rfl rfl hl.1 rfl (Nat.le_of_ble_eq_true rfl) dL_law_408 ⟨Nat.le_of_ble_eq_true rfl, Nat.le_of_ble_eq_true rfl⟩) hP hD hS hA [0, 1, 2, 3, 4, 5, 6, 7, 8, 9, 10, 11] rfl (fun H locs hP hS => ?_)
        refine lv_aload_n hx hb dL_law_411 rfl (lv_at hl 1 rfl) ?_
        refine lv_aload_n hx hb dL_law_412 rfl (lv_at hl 3 rfl) ?_
        refine lv_iload_n hx hb dL_law_413 rfl (lv_at hl 0 rfl) ?_
        refine lv_iconst (v := (1 : Int32)) hx hb dL_law_414 (by decide) ?_
        refine lv_iadd hx hb dL_law_415 ?_
        obtain ⟨v523, h524, hf⟩ := kBind hf
        refine ksld hx hb hX hbl hbA hS h524 dL_law_416 ?_
        refine lv_aload_n hx hb dL_law_417 rfl (lv_at hl 3 rfl) ?_
        refine lv_iload_n hx hb dL_law_418 rfl (lv_at hl 0 rfl) ?_
        refine lv_iconst (v := (2 : Int32)) hx hb dL_law_419 (by decide) ?_
        refine lv_iadd hx hb dL_law_420 ?_
        obtain ⟨v525, h526, hf⟩ := kBind hf
        refine ksld hx hb hX hbl hbA hS h526 dL_law_421 ?_
        refine lv_aload_n hx hb dL_law_422 rfl (lv_at hl 3 rfl) ?_
        refine lv_iload_n hx hb dL_law_423 rfl (lv_at hl 0 rfl) ?_
        refine lv_iconst (v := (3 : Int32)) hx hb dL_law_424 (by decide) ?_
        refine lv_iadd hx hb dL_law_425 ?_
        obtain ⟨v527, h528, hf⟩ := kBind hf
        refine ksld hx hb hX hbl hbA hS h528 dL_law_426 ?_
        refine lv_if_eq (tgt := 434) hx hb dL_law_427 (by decide) (fun c529 => ?_) (fun c529 => ?_)
        · have hf := kIfT c529 hf
          refine lv_iconst (v := (0 : Int32)) hx hb dL_law_434 (by decide) ?_
          obtain ⟨v530, h531, hf⟩ := kBind hf
          refine kgoR (krunV (wc := (wX4 cI a12 a13 a14 M SV MX ML MA MH)) (As := [.int v523, .int v525, .int (bI false)]) (rest := [.int v521]) (ci := 4) hx hb hml hown hts hK (kX4_arc l D cI a12 a13 a14 M SV MX ML MA MH v523 v525 false v530 h531) gL_law_X4_arc rfl rfl rfl hdX4_arc ⟨Nat.le_of_ble_eq_true rfl, Nat.le_of_ble_eq_true rfl⟩ (hP.sub [12, 13, 14] rfl) (hD.sub [12, 13, 14] (by decide) rfl) rfl rfl rfl rfl hl.1 rfl (Nat.le_of_ble_eq_true rfl) dL_law_435 ⟨Nat.le_of_ble_eq_true rfl, Nat.le_of_ble_eq_true rfl⟩) hP hD hS hA [12, 13, 14] rfl (fun H locs hP hS => ?_)
          refine lv_icmp_eq (tgt := 985) hx hb dL_law_438 (by decide) (fun c532 => ?_) (fun c532 => ?_)
          · have hf := kIfT c532 hf
            refine lv_iinc (v := x3 + (5 : Int32)) (lv' := [(3, .int (x3 + (5 : Int32))), (2, .ref a12), (1, .ref a0), (0, .ref b)]) hx hb dL_law_985 hl (k := 0) rfl rfl (by decide) rfl (fun ls hl => ?_)
            refine lv_goto (tgt := 18) hx hb dL_law_988 (by decide) ?_
            obtain ⟨z533, hz533⟩ : ∃ z : Int32, z = x3 + (5 : Int32) := ⟨_, rfl⟩
            rw [← hz533] at hf
            have he := (Option.some.inj hf).symm
            have hl : lv_has ls 4 [(3, .int z533), (2, .ref a12), (1, .ref a0), (0, .ref b)] := by rw [hz533]; exact lv_sub hl [0, 1, 2, 3] rfl
            exact hI1 _ he H locs ls hP hD hS hl
          · have hf := kIfF c532 hf
            refine lv_iconst (v := (0 : Int32)) hx hb dL_law_441 (by decide) ?_
            have he := hO1 _ (Option.some.inj hf).symm
            exact absurd he (by decide)
        · have hf := kIfF c529 hf
          refine lv_iconst (v := (1 : Int32)) hx hb dL_law_430 (by decide) ?_
          refine lv_goto (tgt := 435) hx hb dL_law_431 (by decide) ?_
          obtain ⟨v534, h535, hf⟩ := kBind hf
          refine kgoR (krunV (wc := (wX4 cI a12 a13 a14 M SV MX ML MA MH)) (As := [.int v523, .int v525, .int (bI true)]) (rest := [.int v521]) (ci := 4) hx hb hml hown hts hK (kX4_arc l D cI a12 a13 a14 M SV MX ML MA MH v523 v525 true v534 h535) gL_law_X4_arc rfl rfl rfl hdX4_arc ⟨Nat.le_of_ble_eq_true rfl, Nat.le_of_ble_eq_true rfl⟩ (hP.sub [12, 13, 14] rfl) (hD.sub [12, 13, 14] (by decide) rfl) rfl rfl rfl rfl hl.1 rfl (Nat.le_of_ble_eq_true rfl) dL_law_435 ⟨Nat.le_of_ble_eq_true rfl, Nat.le_of_ble_eq_true rfl⟩) hP hD hS hA [12, 13, 14] rfl (fun H locs hP hS => ?_)
          refine lv_icmp_eq (tgt := 985) hx hb dL_law_438 (by decide) (fun c536 => ?_) (fun c536 => ?_)
          · have hf := kIfT c536 hf
            refine lv_iinc (v := x3 + (5 : Int32)) (lv' := [(3, .int (x3 + (5 : Int32))), (2, .ref a12), (1, .ref a0), (0, .ref b)]) hx hb dL_law_985 hl (k := 0) rfl rfl (by decide) rfl (fun ls hl => ?_)
            refine lv_goto (tgt := 18) hx hb dL_law_988 (by decide) ?_
            obtain ⟨z537, hz537⟩ : ∃ z : Int32, z = x3 + (5 : Int32) := ⟨_, rfl⟩
            rw [← hz537] at hf
            have he := (Option.some.inj hf).symm
            have hl : lv_has ls 4 [(3, .int z537), (2, .ref a12), (1, .ref a0), (0, .ref b)] := by rw [hz537]; exact lv_sub hl [0, 1, 2, 3] rfl
            exact hI1 _ he H locs ls hP hD hS hl
          · have hf := kIfF c536 hf
            refine lv_iconst (v := (0 : Int32)) hx hb dL_law_441 (by decide) ?_
            have he := hO1 _ (Option.some.inj hf).symm
            exact absurd he (by decide)
      · have hf := kIfF c520 hf
        refine lv_iconst (v := (1 : Int32)) hx hb dL_law_403 (by decide) ?_
        refine lv_goto (tgt := 408) hx hb dL_law_404 (by decide) ?_
        obtain ⟨v538, h539, hf⟩ := kBind hf
        refine kgoR (krunV (wc := (wX3 cI a0 a1 a2 a3 a4 a5 a6 a7 a8 a9 a10 a11 R R2 HR HS HN TB LN PS TC TW TG CM)) (As := [.int v514, .int v516, .int (bI true)]) (rest := []) (ci := 3) hx hb hml hown hts hK (kX3_arc l D cI a0 a1 a2 a3 a4 a5 a6 a7 a8 a9 a10 a11 R R2 HR HS HN TB LN PS TC TW TG CM v514 v516 true v538 h539) gL_law_X3_arc rfl rfl rfl hdX3_arc ⟨Nat.le_of_ble_eq_true rfl, Nat.le_of_ble_eq_true rfl⟩ (hP.sub [0, 1, 2, 3, 4, 5, 6, 7, 8, 9, 10, 11] rfl) (hD.sub [0, 1, 2, 3, 4, 5, 6, 7, 8, 9, 10, 11] (by decide) rfl) rfl rfl rfl rfl hl.1 rfl (Nat.le_of_ble_eq_true rfl) dL_law_408 ⟨Nat.le_of_ble_eq_true rfl, Nat.le_of_ble_eq_true rfl⟩) hP hD hS hA [0, 1, 2, 3, 4, 5, 6, 7, 8, 9, 10, 11] rfl (fun H locs hP hS => ?_)
        refine lv_aload_n hx hb dL_law_411 rfl (lv_at hl 1 rfl) ?_
        refine lv_aload_n hx hb dL_law_412 rfl (lv_at hl 3 rfl) ?_
        refine lv_iload_n hx hb dL_law_413 rfl (lv_at hl 0 rfl) ?_
        refine lv_iconst (v := (1 : Int32)) hx hb dL_law_414 (by decide) ?_
        refine lv_iadd hx hb dL_law_415 ?_
        obtain ⟨v540, h541, hf⟩ := kBind hf
        refine ksld hx hb hX hbl hbA hS h541 dL_law_416 ?_
        refine lv_aload_n hx hb dL_law_417 rfl (lv_at hl 3 rfl) ?_
        refine lv_iload_n hx hb dL_law_418 rfl (lv_at hl 0 rfl) ?_
        refine lv_iconst (v := (2 : Int32)) hx hb dL_law_419 (by decide) ?_
        refine lv_iadd hx hb dL_law_420 ?_
        obtain ⟨v542, h543, hf⟩ := kBind hf
        refine ksld hx hb hX hbl hbA hS h543 dL_law_421 ?_
        refine lv_aload_n hx hb dL_law_422 rfl (lv_at hl 3 rfl) ?_
        refine lv_iload_n hx hb dL_law_423 rfl (lv_at hl 0 rfl) ?_
        refine lv_iconst (v := (3 : Int32)) hx hb dL_law_424 (by decide) ?_
        refine lv_iadd hx hb dL_law_425 ?_
        obtain ⟨v544, h545, hf⟩ := kBind hf
        refine ksld hx hb hX hbl hbA hS h545 dL_law_426 ?_
        refine lv_if_eq (tgt := 434) hx hb dL_law_427 (by decide) (fun c546 => ?_) (fun c546 => ?_)
        · have hf := kIfT c546 hf
          refine lv_iconst (v := (0 : Int32)) hx hb dL_law_434 (by decide) ?_
          obtain ⟨v547, h548, hf⟩ := kBind hf
          refine kgoR (krunV (wc := (wX4 cI a12 a13 a14 M SV MX ML MA MH)) (As := [.int v540, .int v542, .int (bI false)]) (rest := [.int v538]) (ci := 4) hx hb hml hown hts hK (kX4_arc l D cI a12 a13 a14 M SV MX ML MA MH v540 v542 false v547 h548) gL_law_X4_arc rfl rfl rfl hdX4_arc ⟨Nat.le_of_ble_eq_true rfl, Nat.le_of_ble_eq_true rfl⟩ (hP.sub [12, 13, 14] rfl) (hD.sub [12, 13, 14] (by decide) rfl) rfl rfl rfl rfl hl.1 rfl (Nat.le_of_ble_eq_true rfl) dL_law_435 ⟨Nat.le_of_ble_eq_true rfl, Nat.le_of_ble_eq_true rfl⟩) hP hD hS hA [12, 13, 14] rfl (fun H locs hP hS => ?_)
          refine lv_icmp_eq (tgt := 985) hx hb dL_law_438 (by decide) (fun c549 => ?_) (fun c549 => ?_)
          · have hf := kIfT c549 hf
            refine lv_iinc (v := x3 + (5 : Int32)) (lv' := [(3, .int (x3 + (5 : Int32))), (2, .ref a12), (1, .ref a0), (0, .ref b)]) hx hb dL_law_985 hl (k := 0) rfl rfl (by decide) rfl (fun ls hl => ?_)
            refine lv_goto (tgt := 18) hx hb dL_law_988 (by decide) ?_
            obtain ⟨z550, hz550⟩ : ∃ z : Int32, z = x3 + (5 : Int32) := ⟨_, rfl⟩
            rw [← hz550] at hf
            have he := (Option.some.inj hf).symm
            have hl : lv_has ls 4 [(3, .int z550), (2, .ref a12), (1, .ref a0), (0, .ref b)] := by rw [hz550]; exact lv_sub hl [0, 1, 2, 3] rfl
            exact hI1 _ he H locs ls hP hD hS hl
          · have hf := kIfF c549 hf
            refine lv_iconst (v := (0 : Int32)) hx hb dL_law_441 (by decide) ?_
            have he := hO1 _ (Option.some.inj hf).symm
            exact absurd he (by decide)
        · have hf := kIfF c546 hf
          refine lv_iconst (v := (1 : Int32)) hx hb dL_law_430 (by decide) ?_
          refine lv_goto (tgt := 435) hx hb dL_law_431 (by decide) ?_
          obtain ⟨v551, h552, hf⟩ := kBind hf
          refine kgoR (krunV (wc := (wX4 cI a12 a13 a14 M SV MX ML MA MH)) (As := [.int v540, .int v542, .int (bI true)]) (rest := [.int v538]) (ci := 4) hx hb hml hown hts hK (kX4_arc l D cI a12 a13 a14 M SV MX ML MA MH v540 v542 true v551 h552) gL_law_X4_arc rfl rfl rfl hdX4_arc ⟨Nat.le_of_ble_eq_true rfl, Nat.le_of_ble_eq_true rfl⟩ (hP.sub [12, 13, 14] rfl) (hD.sub [12, 13, 14] (by decide) rfl) rfl rfl rfl rfl hl.1 rfl (Nat.le_of_ble_eq_true rfl) dL_law_435 ⟨Nat.le_of_ble_eq_true rfl, Nat.le_of_ble_eq_true rfl⟩) hP hD hS hA [12, 13, 14] rfl (fun H locs hP hS => ?_)
          refine lv_icmp_eq (tgt := 985) hx hb dL_law_438 (by decide) (fun c553 => ?_) (fun c553 => ?_)
          · have hf := kIfT c553 hf
            refine lv_iinc (v := x3 + (5 : Int32)) (lv' := [(3, .int (x3 + (5 : Int32))), (2, .ref a12), (1, .ref a0), (0, .ref b)]) hx hb dL_law_985 hl (k := 0) rfl rfl (by decide) rfl (fun ls hl => ?_)
            refine lv_goto (tgt := 18) hx hb dL_law_988 (by decide) ?_
            obtain ⟨z554, hz554⟩ : ∃ z : Int32, z = x3 + (5 : Int32) := ⟨_, rfl⟩
            rw [← hz554] at hf
            have he := (Option.some.inj hf).symm
            have hl : lv_has ls 4 [(3, .int z554), (2, .ref a12), (1, .ref a0), (0, .ref b)] := by rw [hz554]; exact lv_sub hl [0, 1, 2, 3] rfl
            exact hI1 _ he H locs ls hP hD hS hl
          · have hf := kIfF c553 hf
            refine lv_iconst (v := (0 : Int32)) hx hb dL_law_441 (by decide) ?_
            have he := hO1 _ (Option.some.inj hf).symm
            exact absurd he (by decide)
    have hf := kIfF c513 hf
    by_cases c555 : (v417 &&& (31 : Int32)) = (7 : Int32)
    · have hf := kIfT c555 hf
      unfold fL_law_c7 at hf
      refine lv_tableIn (off := 411) (tgt := 443) hx hb dL_law_32 (by rw [c555]; decide) (by rw [c555]; decide) (by rw [c555]; rfl) (by decide) ?_
      refine lv_aload_n hx hb dL_law_443 rfl (lv_at hl 2 rfl) ?_
      refine lv_aload_n hx hb dL_law_444 rfl (lv_at hl 3 rfl) ?_
      refine lv_iload_n hx hb dL_law_445 rfl (lv_at hl 0 rfl) ?_
      refine lv_iconst (v := (1 : Int32)) hx hb dL_law_446 (by decide) ?_
      refine lv_iadd hx hb dL_law_447 ?_
      obtain ⟨v556, h557, hf⟩ := kBind hf
      refine ksld hx hb hX hbl hbA hS h557 dL_law_448 ?_
      obtain ⟨v558, h559, hf⟩ := kBind hf
      refine kgoR (krunV (wc := (wX3 cI a0 a1 a2 a3 a4 a5 a6 a7 a8 a9 a10 a11 R R2 HR HS HN TB LN PS TC TW TG CM)) (As := [.int v556]) (rest := []) (ci := 3) hx hb hml hown hts hK (kX3_occupants l D cI fu a0 a1 a2 a3 a4 a5 a6 a7 a8 a9 a10 a11 R R2 HR HS HN TB LN PS TC TW TG CM v556 v558 h559) gL_law_X3_occupants rfl rfl rfl hdX3_occupants ⟨Nat.le_of_ble_eq_true rfl, Nat.le_of_ble_eq_true rfl⟩ (hP.sub [0, 1, 2, 3, 4, 5, 6, 7, 8, 9, 10, 11] rfl) (hD.sub [0, 1, 2, 3, 4, 5, 6, 7, 8, 9, 10, 11] (by decide) rfl) rfl rfl rfl rfl hl.1 rfl (Nat.le_of_ble_eq_true rfl) dL_law_449 ⟨Nat.le_of_ble_eq_true rfl, Nat.le_of_ble_eq_true rfl⟩) hP hD hS hA [0, 1, 2, 3, 4, 5, 6, 7, 8, 9, 10, 11] rfl (fun H locs hP hS => ?_)
      refine lv_aload_n hx hb dL_law_452 rfl (lv_at hl 1 rfl) ?_
      refine lv_aload_n hx hb dL_law_453 rfl (lv_at hl 3 rfl) ?_
      refine lv_iload_n hx hb dL_law_454 rfl (lv_at hl 0 rfl) ?_
      refine lv_iconst (v := (1 : Int32)) hx hb dL_law_455 (by decide) ?_
      refine lv_iadd hx hb dL_law_456 ?_
      obtain ⟨v560, h561, hf⟩ := kBind hf
      refine ksld hx hb hX hbl hbA hS h561 dL_law_457 ?_
      obtain ⟨v562, h563, hf⟩ := kBind hf
      refine kgoR (krunV (wc := (wX4 cI a12 a13 a14 M SV MX ML MA MH)) (As := [.int v560]) (rest := [.int v558]) (ci := 4) hx hb hml hown hts hK (kX4_occupants l D cI fu a12 a13 a14 M SV MX ML MA MH v560 v562 h563) gL_law_X4_occupants rfl rfl rfl hdX4_occupants ⟨Nat.le_of_ble_eq_true rfl, Nat.le_of_ble_eq_true rfl⟩ (hP.sub [12, 13, 14] rfl) (hD.sub [12, 13, 14] (by decide) rfl) rfl rfl rfl rfl hl.1 rfl (Nat.le_of_ble_eq_true rfl) dL_law_458 ⟨Nat.le_of_ble_eq_true rfl, Nat.le_of_ble_eq_true rfl⟩) hP hD hS hA [12, 13, 14] rfl (fun H locs hP hS => ?_)
      refine lv_icmp_eq (tgt := 985) hx hb dL_law_461 (by decide) (fun c564 => ?_) (fun c564 => ?_)
      · have hf := kIfT c564 hf
        refine lv_iinc (v := x3 + (5 : Int32)) (lv' := [(3, .int (x3 + (5 : Int32))), (2, .ref a12), (1, .ref a0), (0, .ref b)]) hx hb dL_law_985 hl (k := 0) rfl rfl (by decide) rfl (fun ls hl => ?_)
        refine lv_goto (tgt := 18) hx hb dL_law_988 (by decide) ?_
        obtain ⟨z565, hz565⟩ : ∃ z : Int32, z = x3 + (5 : Int32) := ⟨_, rfl⟩
        rw [← hz565] at hf
        have he := (Option.some.inj hf).symm
        have hl : lv_has ls 4 [(3, .int z565), (2, .ref a12), (1, .ref a0), (0, .ref b)] := by rw [hz565]; exact lv_sub hl [0, 1, 2, 3] rfl
        exact hI1 _ he H locs ls hP hD hS hl
      · have hf := kIfF c564 hf
        refine lv_iconst (v := (0 : Int32)) hx hb dL_law_464 (by decide) ?_
        have he := hO1 _ (Option.some.inj hf).symm
        exact absurd he (by decide)
    have hf := kIfF c555 hf
    by_cases c566 : (v417 &&& (31 : Int32)) = (8 : Int32)
    · have hf := kIfT c566 hf
      unfold fL_law_c8 at hf
      refine lv_tableIn (off := 434) (tgt := 466) hx hb dL_law_32 (by rw [c566]; decide) (by rw [c566]; decide) (by rw [c566]; rfl) (by decide) ?_
      refine lv_aload_n hx hb dL_law_466 rfl (lv_at hl 2 rfl) ?_
      obtain ⟨v567, h568, hf⟩ := kBind hf
      refine kgoR (krunV (wc := (wX3 cI a0 a1 a2 a3 a4 a5 a6 a7 a8 a9 a10 a11 R R2 HR HS HN TB LN PS TC TW TG CM)) (As := []) (rest := []) (ci := 3) hx hb hml hown hts hK (kX3_conflicts l D cI fu a0 a1 a2 a3 a4 a5 a6 a7 a8 a9 a10 a11 R R2 HR HS HN TB LN PS TC TW TG CM v567 h568) gL_law_X3_conflicts rfl rfl rfl hdX3_conflicts ⟨Nat.le_of_ble_eq_true rfl, Nat.le_of_ble_eq_true rfl⟩ (hP.sub [0, 1, 2, 3, 4, 5, 6, 7, 8, 9, 10, 11] rfl) (hD.sub [0, 1, 2, 3, 4, 5, 6, 7, 8, 9, 10, 11] (by decide) rfl) rfl rfl rfl rfl hl.1 rfl (Nat.le_of_ble_eq_true rfl) dL_law_467 ⟨Nat.le_of_ble_eq_true rfl, Nat.le_of_ble_eq_true rfl⟩) hP hD hS hA [0, 1, 2, 3, 4, 5, 6, 7, 8, 9, 10, 11] rfl (fun H locs hP hS => ?_)
      refine lv_aload_n hx hb dL_law_470 rfl (lv_at hl 1 rfl) ?_
      obtain ⟨v569, h570, hf⟩ := kBind hf
      refine kgoR (krunV (wc := (wX4 cI a12 a13 a14 M SV MX ML MA MH)) (As := []) (rest := [.int v567]) (ci := 4) hx hb hml hown hts hK (kX4_conflicts l D cI fu a12 a13 a14 M SV MX ML MA MH v569 h570) gL_law_X4_conflicts rfl rfl rfl hdX4_conflicts ⟨Nat.le_of_ble_eq_true rfl, Nat.le_of_ble_eq_true rfl⟩ (hP.sub [12, 13, 14] rfl) (hD.sub [12, 13, 14] (by decide) rfl) rfl rfl rfl rfl hl.1 rfl (Nat.le_of_ble_eq_true rfl) dL_law_471 ⟨Nat.le_of_ble_eq_true rfl, Nat.le_of_ble_eq_true rfl⟩) hP hD hS hA [12, 13, 14] rfl (fun H locs hP hS => ?_)
      refine lv_icmp_eq (tgt := 985) hx hb dL_law_474 (by decide) (fun c571 => ?_) (fun c571 => ?_)
      · have hf := kIfT c571 hf
        refine lv_iinc (v := x3 + (5 : Int32)) (lv' := [(3, .int (x3 + (5 : Int32))), (2, .ref a12), (1, .ref a0), (0, .ref b)]) hx hb dL_law_985 hl (k := 0) rfl rfl (by decide) rfl (fun ls hl => ?_)
        refine lv_goto (tgt := 18) hx hb dL_law_988 (by decide) ?_
        obtain ⟨z572, hz572⟩ : ∃ z : Int32, z = x3 + (5 : Int32) := ⟨_, rfl⟩
        rw [← hz572] at hf
        have he := (Option.some.inj hf).symm
        have hl : lv_has ls 4 [(3, .int z572), (2, .ref a12), (1, .ref a0), (0, .ref b)] := by rw [hz572]; exact lv_sub hl [0, 1, 2, 3] rfl
        exact hI1 _ he H locs ls hP hD hS hl
      · have hf := kIfF c571 hf
        refine lv_iconst (v := (0 : Int32)) hx hb dL_law_477 (by decide) ?_
        have he := hO1 _ (Option.some.inj hf).symm
        exact absurd he (by decide)
    have hf := kIfF c566 hf
    by_cases c573 : (v417 &&& (31 : Int32)) = (9 : Int32)
    · have hf := kIfT c573 hf
      unfold fL_law_c9 at hf
      refine lv_tableIn (off := 447) (tgt := 479) hx hb dL_law_32 (by rw [c573]; decide) (by rw [c573]; decide) (by rw [c573]; rfl) (by decide) ?_
      refine lv_aload_n hx hb dL_law_479 rfl (lv_at hl 2 rfl) ?_
      refine lv_aload_n hx hb dL_law_480 rfl (lv_at hl 3 rfl) ?_
      refine lv_iload_n hx hb dL_law_481 rfl (lv_at hl 0 rfl) ?_
      refine lv_iconst (v := (1 : Int32)) hx hb dL_law_482 (by decide) ?_
      refine lv_iadd hx hb dL_law_483 ?_
      obtain ⟨v574, h575, hf⟩ := kBind hf
      refine ksld hx hb hX hbl hbA hS h575 dL_law_484 ?_
      refine lv_aload_n hx hb dL_law_485 rfl (lv_at hl 3 rfl) ?_
      refine lv_iload_n hx hb dL_law_486 rfl (lv_at hl 0 rfl) ?_
      refine lv_iconst (v := (2 : Int32)) hx hb dL_law_487 (by decide) ?_
      refine lv_iadd hx hb dL_law_488 ?_
      obtain ⟨v576, h577, hf⟩ := kBind hf
      refine ksld hx hb hX hbl hbA hS h577 dL_law_489 ?_
      refine lv_aload_n hx hb dL_law_490 rfl (lv_at hl 3 rfl) ?_
      refine lv_iload_n hx hb dL_law_491 rfl (lv_at hl 0 rfl) ?_
      refine lv_iconst (v := (3 : Int32)) hx hb dL_law_492 (by decide) ?_
      refine lv_iadd hx hb dL_law_493 ?_
      obtain ⟨v578, h579, hf⟩ := kBind hf
      refine ksld hx hb hX hbl hbA hS h579 dL_law_494 ?_
      obtain ⟨v580, h581, hf⟩ := kBind hf
      refine kgoJ (wr := [(a12, .inr (4, [.ref a13, .int SV, .ref a14, .int ML, .int MA, .long MH])), (a13, .inl (cI, 896, .inl M)), (a14, .inl (cI, 80, .inl MX))]) (w2 := (wX3_X4 cI a0 a1 a2 a3 a4 a5 a6 a7 a8 a9 a10 a11 a12 a13 a14 v580.2.1 R2 v580.2.2.1 v580.2.2.2.1 v580.2.2.2.2 TB LN PS TC TW TG CM M SV MX ML MA MH)) (krunV (wc := (wX3 cI a0 a1 a2 a3 a4 a5 a6 a7 a8 a9 a10 a11 R R2 HR HS HN TB LN PS TC TW TG CM)) (As := [.int v574, .int v576, .int v578]) (rest := []) (ci := 3) hx hb hml hown hts hK (kX3_slew l D cI a0 a1 a2 a3 a4 a5 a6 a7 a8 a9 a10 a11 R R2 HR HS HN TB LN PS TC TW TG CM v574 v576 v578 v580 h581) gL_law_X3_slew rfl rfl rfl hdX3_slew ⟨Nat.le_of_ble_eq_true rfl, Nat.le_of_ble_eq_true rfl⟩ (hP.sub [0, 1, 2, 3, 4, 5, 6, 7, 8, 9, 10, 11] rfl) (hD.sub [0, 1, 2, 3, 4, 5, 6, 7, 8, 9, 10, 11] (by decide) rfl) rfl rfl rfl rfl hl.1 rfl (Nat.le_of_ble_eq_true rfl) dL_law_495 ⟨Nat.le_of_ble_eq_true rfl, Nat.le_of_ble_eq_true rfl⟩) hP hD hS hA [0, 1, 2, 3, 4, 5, 6, 7, 8, 9, 10, 11] [12, 13, 14] [3, 4, 5, 6, 7, 8, 9, 10, 11, 12, 13, 14, 0, 1, 2] rfl rfl (by decide) (by decide) (by decide) rfl (fun H locs hP hD hS => ?_)
      refine lv_aload_n hx hb dL_law_498 rfl (lv_at hl 1 rfl) ?_
      refine lv_aload_n hx hb dL_law_499 rfl (lv_at hl 3 rfl) ?_
      refine lv_iload_n hx hb dL_law_500 rfl (lv_at hl 0 rfl) ?_
      refine lv_iconst (v := (1 : Int32)) hx hb dL_law_501 (by decide) ?_
      refine lv_iadd hx hb dL_law_502 ?_
      obtain ⟨v582, h583, hf⟩ := kBind hf
      refine ksld hx hb hX hbl hbA hS h583 dL_law_503 ?_
      refine lv_aload_n hx hb dL_law_504 rfl (lv_at hl 3 rfl) ?_
      refine lv_iload_n hx hb dL_law_505 rfl (lv_at hl 0 rfl) ?_
      refine lv_iconst (v := (2 : Int32)) hx hb dL_law_506 (by decide) ?_
      refine lv_iadd hx hb dL_law_507 ?_
      obtain ⟨v584, h585, hf⟩ := kBind hf
      refine ksld hx hb hX hbl hbA hS h585 dL_law_508 ?_
      refine lv_aload_n hx hb dL_law_509 rfl (lv_at hl 3 rfl) ?_
      refine lv_iload_n hx hb dL_law_510 rfl (lv_at hl 0 rfl) ?_
      refine lv_iconst (v := (3 : Int32)) hx hb dL_law_511 (by decide) ?_
      refine lv_iadd hx hb dL_law_512 ?_
      obtain ⟨v586, h587, hf⟩ := kBind hf
      refine ksld hx hb hX hbl hbA hS h587 dL_law_513 ?_
      obtain ⟨v588, h589, hf⟩ := kBind hf
      refine kgoJ (wr := [(a0, .inr (3, [.ref a1, .ref a3, .ref a5, .ref a7])), (a1, .inr (1, [.ref a2])), (a2, .inl (cI, 132, .inl v580.2.1)), (a3, .inr (1, [.ref a4])), (a4, .inl (cI, 132, .inl R2)), (a5, .inr (0, [.ref a6, .int v580.2.2.2.1, .int v580.2.2.2.2])), (a6, .inl (cI, 660, .inl v580.2.2.1)), (a7, .inr (2, [.ref a8, .int LN, .int PS, .ref a9, .ref a10, .ref a11, .int CM])), (a8, .inl (cI, 80, .inl TB)), (a9, .inl (cI, 20, .inl TC)), (a10, .inl (cI, 20, .inl TW)), (a11, .inl (cI, 20, .inl TG))]) (w2 := (wX3_X4 cI a0 a1 a2 a3 a4 a5 a6 a7 a8 a9 a10 a11 a12 a13 a14 v580.2.1 R2 v580.2.2.1 v580.2.2.2.1 v580.2.2.2.2 TB LN PS TC TW TG CM v588.2.1 v588.2.2 MX ML MA MH)) (krunV (wc := (wX4 cI a12 a13 a14 M SV MX ML MA MH)) (As := [.int v582, .int v584, .int v586]) (rest := [.int v580.1]) (ci := 4) hx hb hml hown hts hK (kX4_slew l D cI fu a12 a13 a14 M SV MX ML MA MH v582 v584 v586 v588 h589) gL_law_X4_slew rfl rfl rfl hdX4_slew ⟨Nat.le_of_ble_eq_true rfl, Nat.le_of_ble_eq_true rfl⟩ (hP.sub [12, 13, 14] rfl) (hD.sub [12, 13, 14] (by decide) rfl) rfl rfl rfl rfl hl.1 rfl (Nat.le_of_ble_eq_true rfl) dL_law_514 ⟨Nat.le_of_ble_eq_true rfl, Nat.le_of_ble_eq_true rfl⟩) hP hD hS hA [12, 13, 14] [0, 1, 2, 3, 4, 5, 6, 7, 8, 9, 10, 11] [0, 1, 2, 3, 4, 5, 6, 7, 8, 9, 10, 11, 12, 13, 14] rfl rfl (by decide) (by decide) (by decide) rfl (fun H locs hP hD hS => ?_)
      refine lv_icmp_eq (tgt := 985) hx hb dL_law_517 (by decide) (fun c590 => ?_) (fun c590 => ?_)
      · have hf := kIfT c590 hf
        refine lv_iinc (v := x3 + (5 : Int32)) (lv' := [(3, .int (x3 + (5 : Int32))), (2, .ref a12), (1, .ref a0), (0, .ref b)]) hx hb dL_law_985 hl (k := 0) rfl rfl (by decide) rfl (fun ls hl => ?_)
        refine lv_goto (tgt := 18) hx hb dL_law_988 (by decide) ?_
        obtain ⟨z591, hz591⟩ : ∃ z : Int32, z = x3 + (5 : Int32) := ⟨_, rfl⟩
        rw [← hz591] at hf
        have he := (Option.some.inj hf).symm
        have hl : lv_has ls 4 [(3, .int z591), (2, .ref a12), (1, .ref a0), (0, .ref b)] := by rw [hz591]; exact lv_sub hl [0, 1, 2, 3] rfl
        exact hI1 _ he H locs ls hP hD hS hl
      · have hf := kIfF c590 hf
        refine lv_iconst (v := (0 : Int32)) hx hb dL_law_520 (by decide) ?_
        have he := hO1 _ (Option.some.inj hf).symm
        exact absurd he (by decide)
    have hf := kIfF c573 hf
    by_cases c592 : (v417 &&& (31 : Int32)) = (10 : Int32)
    · have hf := kIfT c592 hf
      unfold fL_law_c10 at hf
      refine lv_tableIn (off := 490) (tgt := 522) hx hb dL_law_32 (by rw [c592]; decide) (by rw [c592]; decide) (by rw [c592]; rfl) (by decide) ?_
      refine lv_aload_n hx hb dL_law_522 rfl (lv_at hl 2 rfl) ?_
      refine lv_aload_n hx hb dL_law_523 rfl (lv_at hl 3 rfl) ?_
      refine lv_iload_n hx hb dL_law_524 rfl (lv_at hl 0 rfl) ?_
      refine lv_iconst (v := (1 : Int32)) hx hb dL_law_525 (by decide) ?_
      refine lv_iadd hx hb dL_law_526 ?_
      obtain ⟨v593, h594, hf⟩ := kBind hf
      refine ksld hx hb hX hbl hbA hS h594 dL_law_527 ?_
      obtain ⟨v595, h596, hf⟩ := kBind hf
      refine kgoJ (wr := [(a12, .inr (4, [.ref a13, .int SV, .ref a14, .int ML, .int MA, .long MH])), (a13, .inl (cI, 896, .inl M)), (a14, .inl (cI, 80, .inl MX))]) (w2 := (wX3_X4 cI a0 a1 a2 a3 a4 a5 a6 a7 a8 a9 a10 a11 a12 a13 a14 v595.2.1 R2 v595.2.2.1 v595.2.2.2.1 v595.2.2.2.2 TB LN PS TC TW TG CM M SV MX ML MA MH)) (krunV (wc := (wX3 cI a0 a1 a2 a3 a4 a5 a6 a7 a8 a9 a10 a11 R R2 HR HS HN TB LN PS TC TW TG CM)) (As := [.int v593]) (rest := []) (ci := 3) hx hb hml hown hts hK (kX3_stop l D cI a0 a1 a2 a3 a4 a5 a6 a7 a8 a9 a10 a11 R R2 HR HS HN TB LN PS TC TW TG CM v593 v595 h596) gL_law_X3_stop rfl rfl rfl hdX3_stop ⟨Nat.le_of_ble_eq_true rfl, Nat.le_of_ble_eq_true rfl⟩ (hP.sub [0, 1, 2, 3, 4, 5, 6, 7, 8, 9, 10, 11] rfl) (hD.sub [0, 1, 2, 3, 4, 5, 6, 7, 8, 9, 10, 11] (by decide) rfl) rfl rfl rfl rfl hl.1 rfl (Nat.le_of_ble_eq_true rfl) dL_law_528 ⟨Nat.le_of_ble_eq_true rfl, Nat.le_of_ble_eq_true rfl⟩) hP hD hS hA [0, 1, 2, 3, 4, 5, 6, 7, 8, 9, 10, 11] [12, 13, 14] [3, 4, 5, 6, 7, 8, 9, 10, 11, 12, 13, 14, 0, 1, 2] rfl rfl (by decide) (by decide) (by decide) rfl (fun H locs hP hD hS => ?_)
      refine lv_aload_n hx hb dL_law_531 rfl (lv_at hl 1 rfl) ?_
      refine lv_aload_n hx hb dL_law_532 rfl (lv_at hl 3 rfl) ?_
      refine lv_iload_n hx hb dL_law_533 rfl (lv_at hl 0 rfl) ?_
      refine lv_iconst (v := (1 : Int32)) hx hb dL_law_534 (by decide) ?_
      refine lv_iadd hx hb dL_law_535 ?_
      obtain ⟨v597, h598, hf⟩ := kBind hf
      refine ksld hx hb hX hbl hbA hS h598 dL_law_536 ?_
      obtain ⟨v599, h600, hf⟩ := kBind hf
      refine kgoJ (wr := [(a0, .inr (3, [.ref a1, .ref a3, .ref a5, .ref a7])), (a1, .inr (1, [.ref a2])), (a2, .inl (cI, 132, .inl v595.2.1)), (a3, .inr (1, [.ref a4])), (a4, .inl (cI, 132, .inl R2)), (a5, .inr (0, [.ref a6, .int v595.2.2.2.1, .int v595.2.2.2.2])), (a6, .inl (cI, 660, .inl v595.2.2.1)), (a7, .inr (2, [.ref a8, .int LN, .int PS, .ref a9, .ref a10, .ref a11, .int CM])), (a8, .inl (cI, 80, .inl TB)), (a9, .inl (cI, 20, .inl TC)), (a10, .inl (cI, 20, .inl TW)), (a11, .inl (cI, 20, .inl TG))]) (w2 := (wX3_X4 cI a0 a1 a2 a3 a4 a5 a6 a7 a8 a9 a10 a11 a12 a13 a14 v595.2.1 R2 v595.2.2.1 v595.2.2.2.1 v595.2.2.2.2 TB LN PS TC TW TG CM v599.2.1 v599.2.2 MX ML MA MH)) (krunV (wc := (wX4 cI a12 a13 a14 M SV MX ML MA MH)) (As := [.int v597]) (rest := [.int v595.1]) (ci := 4) hx hb hml hown hts hK (kX4_stop l D cI fu a12 a13 a14 M SV MX ML MA MH v597 v599 h600) gL_law_X4_stop rfl rfl rfl hdX4_stop ⟨Nat.le_of_ble_eq_true rfl, Nat.le_of_ble_eq_true rfl⟩ (hP.sub [12, 13, 14] rfl) (hD.sub [12, 13, 14] (by decide) rfl) rfl rfl rfl rfl hl.1 rfl (Nat.le_of_ble_eq_true rfl) dL_law_537 ⟨Nat.le_of_ble_eq_true rfl, Nat.le_of_ble_eq_true rfl⟩) hP hD hS hA [12, 13, 14] [0, 1, 2, 3, 4, 5, 6, 7, 8, 9, 10, 11] [0, 1, 2, 3, 4, 5, 6, 7, 8, 9, 10, 11, 12, 13, 14] rfl rfl (by decide) (by decide) (by decide) rfl (fun H locs hP hD hS => ?_)
      refine lv_icmp_eq (tgt := 985) hx hb dL_law_540 (by decide) (fun c601 => ?_) (fun c601 => ?_)
      · have hf := kIfT c601 hf
        refine lv_iinc (v := x3 + (5 : Int32)) (lv' := [(3, .int (x3 + (5 : Int32))), (2, .ref a12), (1, .ref a0), (0, .ref b)]) hx hb dL_law_985 hl (k := 0) rfl rfl (by decide) rfl (fun ls hl => ?_)
        refine lv_goto (tgt := 18) hx hb dL_law_988 (by decide) ?_
        obtain ⟨z602, hz602⟩ : ∃ z : Int32, z = x3 + (5 : Int32) := ⟨_, rfl⟩
        rw [← hz602] at hf
        have he := (Option.some.inj hf).symm
        have hl : lv_has ls 4 [(3, .int z602), (2, .ref a12), (1, .ref a0), (0, .ref b)] := by rw [hz602]; exact lv_sub hl [0, 1, 2, 3] rfl
        exact hI1 _ he H locs ls hP hD hS hl
      · have hf := kIfF c601 hf
        refine lv_iconst (v := (0 : Int32)) hx hb dL_law_543 (by decide) ?_
        have he := hO1 _ (Option.some.inj hf).symm
        exact absurd he (by decide)
    have hf := kIfF c592 hf
    by_cases c603 : (v417 &&& (31 : Int32)) = (11 : Int32)
    · have hf := kIfT c603 hf
      unfold fL_law_c11 at hf
      refine lv_tableIn (off := 513) (tgt := 545) hx hb dL_law_32 (by rw [c603]; decide) (by rw [c603]; decide) (by rw [c603]; rfl) (by decide) ?_
      refine lv_aload_n hx hb dL_law_545 rfl (lv_at hl 2 rfl) ?_
      refine lv_aload_n hx hb dL_law_546 rfl (lv_at hl 3 rfl) ?_
      refine lv_iload_n hx hb dL_law_547 rfl (lv_at hl 0 rfl) ?_
      refine lv_iconst (v := (1 : Int32)) hx hb dL_law_548 (by decide) ?_
      refine lv_iadd hx hb dL_law_549 ?_
      obtain ⟨v604, h605, hf⟩ := kBind hf
      refine ksld hx hb hX hbl hbA hS h605 dL_law_550 ?_
      obtain ⟨v606, h607, hf⟩ := kBind hf
      refine kgoJ (wr := [(a12, .inr (4, [.ref a13, .int SV, .ref a14, .int ML, .int MA, .long MH])), (a13, .inl (cI, 896, .inl M)), (a14, .inl (cI, 80, .inl MX))]) (w2 := (wX3_X4 cI a0 a1 a2 a3 a4 a5 a6 a7 a8 a9 a10 a11 a12 a13 a14 v606.2.1 R2 v606.2.2.1 v606.2.2.2.1 v606.2.2.2.2 TB LN PS TC TW TG CM M SV MX ML MA MH)) (krunV (wc := (wX3 cI a0 a1 a2 a3 a4 a5 a6 a7 a8 a9 a10 a11 R R2 HR HS HN TB LN PS TC TW TG CM)) (As := [.int v604]) (rest := []) (ci := 3) hx hb hml hown hts hK (kX3_turnRound l D cI a0 a1 a2 a3 a4 a5 a6 a7 a8 a9 a10 a11 R R2 HR HS HN TB LN PS TC TW TG CM v604 v606 h607) gL_law_X3_turnRound rfl rfl rfl hdX3_turnRound ⟨Nat.le_of_ble_eq_true rfl, Nat.le_of_ble_eq_true rfl⟩ (hP.sub [0, 1, 2, 3, 4, 5, 6, 7, 8, 9, 10, 11] rfl) (hD.sub [0, 1, 2, 3, 4, 5, 6, 7, 8, 9, 10, 11] (by decide) rfl) rfl rfl rfl rfl hl.1 rfl (Nat.le_of_ble_eq_true rfl) dL_law_551 ⟨Nat.le_of_ble_eq_true rfl, Nat.le_of_ble_eq_true rfl⟩) hP hD hS hA [0, 1, 2, 3, 4, 5, 6, 7, 8, 9, 10, 11] [12, 13, 14] [3, 4, 5, 6, 7, 8, 9, 10, 11, 12, 13, 14, 0, 1, 2] rfl rfl (by decide) (by decide) (by decide) rfl (fun H locs hP hD hS => ?_)
      refine lv_aload_n hx hb dL_law_554 rfl (lv_at hl 1 rfl) ?_
      refine lv_aload_n hx hb dL_law_555 rfl (lv_at hl 3 rfl) ?_
      refine lv_iload_n hx hb dL_law_556 rfl (lv_at hl 0 rfl) ?_
      refine lv_iconst (v := (1 : Int32)) hx hb dL_law_557 (by decide) ?_
      refine lv_iadd hx hb dL_law_558 ?_
      obtain ⟨v608, h609, hf⟩ := kBind hf
      refine ksld hx hb hX hbl hbA hS h609 dL_law_559 ?_
      obtain ⟨v610, h611, hf⟩ := kBind hf
      refine kgoJ (wr := [(a0, .inr (3, [.ref a1, .ref a3, .ref a5, .ref a7])), (a1, .inr (1, [.ref a2])), (a2, .inl (cI, 132, .inl v606.2.1)), (a3, .inr (1, [.ref a4])), (a4, .inl (cI, 132, .inl R2)), (a5, .inr (0, [.ref a6, .int v606.2.2.2.1, .int v606.2.2.2.2])), (a6, .inl (cI, 660, .inl v606.2.2.1)), (a7, .inr (2, [.ref a8, .int LN, .int PS, .ref a9, .ref a10, .ref a11, .int CM])), (a8, .inl (cI, 80, .inl TB)), (a9, .inl (cI, 20, .inl TC)), (a10, .inl (cI, 20, .inl TW)), (a11, .inl (cI, 20, .inl TG))]) (w2 := (wX3_X4 cI a0 a1 a2 a3 a4 a5 a6 a7 a8 a9 a10 a11 a12 a13 a14 v606.2.1 R2 v606.2.2.1 v606.2.2.2.1 v606.2.2.2.2 TB LN PS TC TW TG CM v610.2.1 v610.2.2 MX ML MA MH)) (krunV (wc := (wX4 cI a12 a13 a14 M SV MX ML MA MH)) (As := [.int v608]) (rest := [.int v606.1]) (ci := 4) hx hb hml hown hts hK (kX4_turnRound l D cI fu a12 a13 a14 M SV MX ML MA MH v608 v610 h611) gL_law_X4_turnRound rfl rfl rfl hdX4_turnRound ⟨Nat.le_of_ble_eq_true rfl, Nat.le_of_ble_eq_true rfl⟩ (hP.sub [12, 13, 14] rfl) (hD.sub [12, 13, 14] (by decide) rfl) rfl rfl rfl rfl hl.1 rfl (Nat.le_of_ble_eq_true rfl) dL_law_560 ⟨Nat.le_of_ble_eq_true rfl, Nat.le_of_ble_eq_true rfl⟩) hP hD hS hA [12, 13, 14] [0, 1, 2, 3, 4, 5, 6, 7, 8, 9, 10, 11] [0, 1, 2, 3, 4, 5, 6, 7, 8, 9, 10, 11, 12, 13, 14] rfl rfl (by decide) (by decide) (by decide) rfl (fun H locs hP hD hS => ?_)
      refine lv_icmp_eq (tgt := 985) hx hb dL_law_563 (by decide) (fun c612 => ?_) (fun c612 => ?_)
      · have hf := kIfT c612 hf
        refine lv_iinc (v := x3 + (5 : Int32)) (lv' := [(3, .int (x3 + (5 : Int32))), (2, .ref a12), (1, .ref a0), (0, .ref b)]) hx hb dL_law_985 hl (k := 0) rfl rfl (by decide) rfl (fun ls hl => ?_)
        refine lv_goto (tgt := 18) hx hb dL_law_988 (by decide) ?_
        obtain ⟨z613, hz613⟩ : ∃ z : Int32, z = x3 + (5 : Int32) := ⟨_, rfl⟩
        rw [← hz613] at hf
        have he := (Option.some.inj hf).symm
        have hl : lv_has ls 4 [(3, .int z613), (2, .ref a12), (1, .ref a0), (0, .ref b)] := by rw [hz613]; exact lv_sub hl [0, 1, 2, 3] rfl
        exact hI1 _ he H locs ls hP hD hS hl
      · have hf := kIfF c612 hf
        refine lv_iconst (v := (0 : Int32)) hx hb dL_law_566 (by decide) ?_
        have he := hO1 _ (Option.some.inj hf).symm
        exact absurd he (by decide)
    have hf := kIfF c603 hf
    by_cases c614 : (v417 &&& (31 : Int32)) = (12 : Int32)
    · have hf := kIfT c614 hf
      unfold fL_law_c12 at hf
      refine lv_tableIn (off := 536) (tgt := 568) hx hb dL_law_32 (by rw [c614]; decide) (by rw [c614]; decide) (by rw [c614]; rfl) (by decide) ?_
      refine lv_aload_n hx hb dL_law_568 rfl (lv_at hl 2 rfl) ?_
      refine lv_aload_n hx hb dL_law_569 rfl (lv_at hl 3 rfl) ?_
      refine lv_iload_n hx hb dL_law_570 rfl (lv_at hl 0 rfl) ?_
      refine lv_iconst (v := (1 : Int32)) hx hb dL_law_571 (by decide) ?_
      refine lv_iadd hx hb dL_law_572 ?_
      obtain ⟨v615, h616, hf⟩ := kBind hf
      refine ksld hx hb hX hbl hbA hS h616 dL_law_573 ?_
      obtain ⟨v617, h618, hf⟩ := kBind hf
      refine kgoJ (wr := [(a12, .inr (4, [.ref a13, .int SV, .ref a14, .int ML, .int MA, .long MH])), (a13, .inl (cI, 896, .inl M)), (a14, .inl (cI, 80, .inl MX))]) (w2 := (wX3_X4 cI a0 a1 a2 a3 a4 a5 a6 a7 a8 a9 a10 a11 a12 a13 a14 v617.2.1 R2 v617.2.2.1 v617.2.2.2.1 v617.2.2.2.2 TB LN PS TC TW TG CM M SV MX ML MA MH)) (krunV (wc := (wX3 cI a0 a1 a2 a3 a4 a5 a6 a7 a8 a9 a10 a11 R R2 HR HS HN TB LN PS TC TW TG CM)) (As := [.int v615]) (rest := []) (ci := 3) hx hb hml hown hts hK (kX3_tick l D cI fu a0 a1 a2 a3 a4 a5 a6 a7 a8 a9 a10 a11 R R2 HR HS HN TB LN PS TC TW TG CM v615 v617 h618) gL_law_X3_tick rfl rfl rfl hdX3_tick ⟨Nat.le_of_ble_eq_true rfl, Nat.le_of_ble_eq_true rfl⟩ (hP.sub [0, 1, 2, 3, 4, 5, 6, 7, 8, 9, 10, 11] rfl) (hD.sub [0, 1, 2, 3, 4, 5, 6, 7, 8, 9, 10, 11] (by decide) rfl) rfl rfl rfl rfl hl.1 rfl (Nat.le_of_ble_eq_true rfl) dL_law_574 ⟨Nat.le_of_ble_eq_true rfl, Nat.le_of_ble_eq_true rfl⟩) hP hD hS hA [0, 1, 2, 3, 4, 5, 6, 7, 8, 9, 10, 11] [12, 13, 14] [3, 4, 5, 6, 7, 8, 9, 10, 11, 12, 13, 14, 0, 1, 2] rfl rfl (by decide) (by decide) (by decide) rfl (fun H locs hP hD hS => ?_)
      refine lv_aload_n hx hb dL_law_577 rfl (lv_at hl 1 rfl) ?_
      refine lv_aload_n hx hb dL_law_578 rfl (lv_at hl 3 rfl) ?_
      refine lv_iload_n hx hb dL_law_579 rfl (lv_at hl 0 rfl) ?_
      refine lv_iconst (v := (1 : Int32)) hx hb dL_law_580 (by decide) ?_
      refine lv_iadd hx hb dL_law_581 ?_
      obtain ⟨v619, h620, hf⟩ := kBind hf
      refine ksld hx hb hX hbl hbA hS h620 dL_law_582 ?_
      obtain ⟨v621, h622, hf⟩ := kBind hf
      refine kgoJ (wr := [(a0, .inr (3, [.ref a1, .ref a3, .ref a5, .ref a7])), (a1, .inr (1, [.ref a2])), (a2, .inl (cI, 132, .inl v617.2.1)), (a3, .inr (1, [.ref a4])), (a4, .inl (cI, 132, .inl R2)), (a5, .inr (0, [.ref a6, .int v617.2.2.2.1, .int v617.2.2.2.2])), (a6, .inl (cI, 660, .inl v617.2.2.1)), (a7, .inr (2, [.ref a8, .int LN, .int PS, .ref a9, .ref a10, .ref a11, .int CM])), (a8, .inl (cI, 80, .inl TB)), (a9, .inl (cI, 20, .inl TC)), (a10, .inl (cI, 20, .inl TW)), (a11, .inl (cI, 20, .inl TG))]) (w2 := (wX3_X4 cI a0 a1 a2 a3 a4 a5 a6 a7 a8 a9 a10 a11 a12 a13 a14 v617.2.1 R2 v617.2.2.1 v617.2.2.2.1 v617.2.2.2.2 TB LN PS TC TW TG CM v621.2.1 v621.2.2 MX ML MA MH)) (krunV (wc := (wX4 cI a12 a13 a14 M SV MX ML MA MH)) (As := [.int v619]) (rest := [.int v617.1]) (ci := 4) hx hb hml hown hts hK (kX4_tick l D cI fu a12 a13 a14 M SV MX ML MA MH v619 v621 h622) gL_law_X4_tick rfl rfl rfl hdX4_tick ⟨Nat.le_of_ble_eq_true rfl, Nat.le_of_ble_eq_true rfl⟩ (hP.sub [12, 13, 14] rfl) (hD.sub [12, 13, 14] (by decide) rfl) rfl rfl rfl rfl hl.1 rfl (Nat.le_of_ble_eq_true rfl) dL_law_583 ⟨Nat.le_of_ble_eq_true rfl, Nat.le_of_ble_eq_true rfl⟩) hP hD hS hA [12, 13, 14] [0, 1, 2, 3, 4, 5, 6, 7, 8, 9, 10, 11] [0, 1, 2, 3, 4, 5, 6, 7, 8, 9, 10, 11, 12, 13, 14] rfl rfl (by decide) (by decide) (by decide) rfl (fun H locs hP hD hS => ?_)
      refine lv_icmp_eq (tgt := 985) hx hb dL_law_586 (by decide) (fun c623 => ?_) (fun c623 => ?_)
      · have hf := kIfT c623 hf
        refine lv_iinc (v := x3 + (5 : Int32)) (lv' := [(3, .int (x3 + (5 : Int32))), (2, .ref a12), (1, .ref a0), (0, .ref b)]) hx hb dL_law_985 hl (k := 0) rfl rfl (by decide) rfl (fun ls hl => ?_)
        refine lv_goto (tgt := 18) hx hb dL_law_988 (by decide) ?_
        obtain ⟨z624, hz624⟩ : ∃ z : Int32, z = x3 + (5 : Int32) := ⟨_, rfl⟩
        rw [← hz624] at hf
        have he := (Option.some.inj hf).symm
        have hl : lv_has ls 4 [(3, .int z624), (2, .ref a12), (1, .ref a0), (0, .ref b)] := by rw [hz624]; exact lv_sub hl [0, 1, 2, 3] rfl
        exact hI1 _ he H locs ls hP hD hS hl
      · have hf := kIfF c623 hf
        refine lv_iconst (v := (0 : Int32)) hx hb dL_law_589 (by decide) ?_
        have he := hO1 _ (Option.some.inj hf).symm
        exact absurd he (by decide)
    have hf := kIfF c614 hf
    by_cases c625 : (v417 &&& (31 : Int32)) = (13 : Int32)
    · have hf := kIfT c625 hf
      unfold fL_law_c13 at hf
      refine lv_tableIn (off := 559) (tgt := 591) hx hb dL_law_32 (by rw [c625]; decide) (by rw [c625]; decide) (by rw [c625]; rfl) (by decide) ?_
      refine lv_aload_n hx hb dL_law_591 rfl (lv_at hl 2 rfl) ?_
      obtain ⟨v626, h627, hf⟩ := kBind hf
      refine kgoR (krunV (wc := (wX3 cI a0 a1 a2 a3 a4 a5 a6 a7 a8 a9 a10 a11 R R2 HR HS HN TB LN PS TC TW TG CM)) (As := []) (rest := []) (ci := 3) hx hb hml hown hts hK (kX3_time l D cI a0 a1 a2 a3 a4 a5 a6 a7 a8 a9 a10 a11 R R2 HR HS HN TB LN PS TC TW TG CM v626 h627) gL_law_X3_time rfl rfl rfl hdX3_time ⟨Nat.le_of_ble_eq_true rfl, Nat.le_of_ble_eq_true rfl⟩ (hP.sub [0, 1, 2, 3, 4, 5, 6, 7, 8, 9, 10, 11] rfl) (hD.sub [0, 1, 2, 3, 4, 5, 6, 7, 8, 9, 10, 11] (by decide) rfl) rfl rfl rfl rfl hl.1 rfl (Nat.le_of_ble_eq_true rfl) dL_law_592 ⟨Nat.le_of_ble_eq_true rfl, Nat.le_of_ble_eq_true rfl⟩) hP hD hS hA [0, 1, 2, 3, 4, 5, 6, 7, 8, 9, 10, 11] rfl (fun H locs hP hS => ?_)
      refine lv_aload_n hx hb dL_law_595 rfl (lv_at hl 1 rfl) ?_
      obtain ⟨v628, h629, hf⟩ := kBind hf
      refine kgoR (krunV (wc := (wX4 cI a12 a13 a14 M SV MX ML MA MH)) (As := []) (rest := [.int v626]) (ci := 4) hx hb hml hown hts hK (kX4_time l D cI a12 a13 a14 M SV MX ML MA MH v628 h629) gL_law_X4_time rfl rfl rfl hdX4_time ⟨Nat.le_of_ble_eq_true rfl, Nat.le_of_ble_eq_true rfl⟩ (hP.sub [12, 13, 14] rfl) (hD.sub [12, 13, 14] (by decide) rfl) rfl rfl rfl rfl hl.1 rfl (Nat.le_of_ble_eq_true rfl) dL_law_596 ⟨Nat.le_of_ble_eq_true rfl, Nat.le_of_ble_eq_true rfl⟩) hP hD hS hA [12, 13, 14] rfl (fun H locs hP hS => ?_)
      refine lv_icmp_eq (tgt := 985) hx hb dL_law_599 (by decide) (fun c630 => ?_) (fun c630 => ?_)
      · have hf := kIfT c630 hf
        refine lv_iinc (v := x3 + (5 : Int32)) (lv' := [(3, .int (x3 + (5 : Int32))), (2, .ref a12), (1, .ref a0), (0, .ref b)]) hx hb dL_law_985 hl (k := 0) rfl rfl (by decide) rfl (fun ls hl => ?_)
        refine lv_goto (tgt := 18) hx hb dL_law_988 (by decide) ?_
        obtain ⟨z631, hz631⟩ : ∃ z : Int32, z = x3 + (5 : Int32) := ⟨_, rfl⟩
        rw [← hz631] at hf
        have he := (Option.some.inj hf).symm
        have hl : lv_has ls 4 [(3, .int z631), (2, .ref a12), (1, .ref a0), (0, .ref b)] := by rw [hz631]; exact lv_sub hl [0, 1, 2, 3] rfl
        exact hI1 _ he H locs ls hP hD hS hl
      · have hf := kIfF c630 hf
        refine lv_iconst (v := (0 : Int32)) hx hb dL_law_602 (by decide) ?_
        have he := hO1 _ (Option.some.inj hf).symm
        exact absurd he (by decide)
    have hf := kIfF c625 hf
    by_cases c632 : (v417 &&& (31 : Int32)) = (14 : Int32)
    · have hf := kIfT c632 hf
      unfold fL_law_c14 at hf
      refine lv_tableIn (off := 572) (tgt := 604) hx hb dL_law_32 (by rw [c632]; decide) (by rw [c632]; decide) (by rw [c632]; rfl) (by decide) ?_
      refine lv_aload_n hx hb dL_law_604 rfl (lv_at hl 2 rfl) ?_
      refine lv_aload_n hx hb dL_law_605 rfl (lv_at hl 3 rfl) ?_
      refine lv_iload_n hx hb dL_law_606 rfl (lv_at hl 0 rfl) ?_
      refine lv_iconst (v := (1 : Int32)) hx hb dL_law_607 (by decide) ?_
      refine lv_iadd hx hb dL_law_608 ?_
      obtain ⟨v633, h634, hf⟩ := kBind hf
      refine ksld hx hb hX hbl hbA hS h634 dL_law_609 ?_
      obtain ⟨v635, h636, hf⟩ := kBind hf
      refine kgoR (krunV (wc := (wX3 cI a0 a1 a2 a3 a4 a5 a6 a7 a8 a9 a10 a11 R R2 HR HS HN TB LN PS TC TW TG CM)) (As := [.int v633]) (rest := []) (ci := 3) hx hb hml hown hts hK (kX3_needs l D cI a0 a1 a2 a3 a4 a5 a6 a7 a8 a9 a10 a11 R R2 HR HS HN TB LN PS TC TW TG CM v633 v635 h636) gL_law_X3_needs rfl rfl rfl hdX3_needs ⟨Nat.le_of_ble_eq_true rfl, Nat.le_of_ble_eq_true rfl⟩ (hP.sub [0, 1, 2, 3, 4, 5, 6, 7, 8, 9, 10, 11] rfl) (hD.sub [0, 1, 2, 3, 4, 5, 6, 7, 8, 9, 10, 11] (by decide) rfl) rfl rfl rfl rfl hl.1 rfl (Nat.le_of_ble_eq_true rfl) dL_law_610 ⟨Nat.le_of_ble_eq_true rfl, Nat.le_of_ble_eq_true rfl⟩) hP hD hS hA [0, 1, 2, 3, 4, 5, 6, 7, 8, 9, 10, 11] rfl (fun H locs hP hS => ?_)
      refine lv_aload_n hx hb dL_law_613 rfl (lv_at hl 1 rfl) ?_
      refine lv_aload_n hx hb dL_law_614 rfl (lv_at hl 3 rfl) ?_
      refine lv_iload_n hx hb dL_law_615 rfl (lv_at hl 0 rfl) ?_
      refine lv_iconst (v := (1 : Int32)) hx hb dL_law_616 (by decide) ?_
      refine lv_iadd hx hb dL_law_617 ?_
      obtain ⟨v637, h638, hf⟩ := kBind hf
      refine ksld hx hb hX hbl hbA hS h638 dL_law_618 ?_
      obtain ⟨v639, h640, hf⟩ := kBind hf
      refine kgoR (krunV (wc := (wX4 cI a12 a13 a14 M SV MX ML MA MH)) (As := [.int v637]) (rest := [.int v635]) (ci := 4) hx hb hml hown hts hK (kX4_needs l D cI a12 a13 a14 M SV MX ML MA MH v637 v639 h640) gL_law_X4_needs rfl rfl rfl hdX4_needs ⟨Nat.le_of_ble_eq_true rfl, Nat.le_of_ble_eq_true rfl⟩ (hP.sub [12, 13, 14] rfl) (hD.sub [12, 13, 14] (by decide) rfl) rfl rfl rfl rfl hl.1 rfl (Nat.le_of_ble_eq_true rfl) dL_law_619 ⟨Nat.le_of_ble_eq_true rfl, Nat.le_of_ble_eq_true rfl⟩) hP hD hS hA [12, 13, 14] rfl (fun H locs hP hS => ?_)
      refine lv_icmp_eq (tgt := 985) hx hb dL_law_622 (by decide) (fun c641 => ?_) (fun c641 => ?_)
      · have hf := kIfT c641 hf
        refine lv_iinc (v := x3 + (5 : Int32)) (lv' := [(3, .int (x3 + (5 : Int32))), (2, .ref a12), (1, .ref a0), (0, .ref b)]) hx hb dL_law_985 hl (k := 0) rfl rfl (by decide) rfl (fun ls hl => ?_)
        refine lv_goto (tgt := 18) hx hb dL_law_988 (by decide) ?_
        obtain ⟨z642, hz642⟩ : ∃ z : Int32, z = x3 + (5 : Int32) := ⟨_, rfl⟩
        rw [← hz642] at hf
        have he := (Option.some.inj hf).symm
        have hl : lv_has ls 4 [(3, .int z642), (2, .ref a12), (1, .ref a0), (0, .ref b)] := by rw [hz642]; exact lv_sub hl [0, 1, 2, 3] rfl
        exact hI1 _ he H locs ls hP hD hS hl
      · have hf := kIfF c641 hf
        refine lv_iconst (v := (0 : Int32)) hx hb dL_law_625 (by decide) ?_
        have he := hO1 _ (Option.some.inj hf).symm
        exact absurd he (by decide)
    have hf := kIfF c632 hf
    by_cases c643 : (v417 &&& (31 : Int32)) = (15 : Int32)
    · have hf := kIfT c643 hf
      unfold fL_law_c15 at hf
      refine lv_tableIn (off := 595) (tgt := 627) hx hb dL_law_32 (by rw [c643]; decide) (by rw [c643]; decide) (by rw [c643]; rfl) (by decide) ?_
      refine lv_aload_n hx hb dL_law_627 rfl (lv_at hl 2 rfl) ?_
      refine lv_aload_n hx hb dL_law_628 rfl (lv_at hl 3 rfl) ?_
      refine lv_iload_n hx hb dL_law_629 rfl (lv_at hl 0 rfl) ?_
      refine lv_iconst (v := (1 : Int32)) hx hb dL_law_630 (by decide) ?_
      refine lv_iadd hx hb dL_law_631 ?_
      obtain ⟨v644, h645, hf⟩ := kBind hf
      refine ksld hx hb hX hbl hbA hS h645 dL_law_632 ?_
      obtain ⟨v646, h647, hf⟩ := kBind hf
      refine kgoR (krunV (wc := (wX3 cI a0 a1 a2 a3 a4 a5 a6 a7 a8 a9 a10 a11 R R2 HR HS HN TB LN PS TC TW TG CM)) (As := [.int v644]) (rest := []) (ci := 3) hx hb hml hown hts hK (kX3_blocker l D cI fu a0 a1 a2 a3 a4 a5 a6 a7 a8 a9 a10 a11 R R2 HR HS HN TB LN PS TC TW TG CM v644 v646 h647) gL_law_X3_blocker rfl rfl rfl hdX3_blocker ⟨Nat.le_of_ble_eq_true rfl, Nat.le_of_ble_eq_true rfl⟩ (hP.sub [0, 1, 2, 3, 4, 5, 6, 7, 8, 9, 10, 11] rfl) (hD.sub [0, 1, 2, 3, 4, 5, 6, 7, 8, 9, 10, 11] (by decide) rfl) rfl rfl rfl rfl hl.1 rfl (Nat.le_of_ble_eq_true rfl) dL_law_633 ⟨Nat.le_of_ble_eq_true rfl, Nat.le_of_ble_eq_true rfl⟩) hP hD hS hA [0, 1, 2, 3, 4, 5, 6, 7, 8, 9, 10, 11] rfl (fun H locs hP hS => ?_)
      refine lv_aload_n hx hb dL_law_636 rfl (lv_at hl 1 rfl) ?_
      refine lv_aload_n hx hb dL_law_637 rfl (lv_at hl 3 rfl) ?_
      refine lv_iload_n hx hb dL_law_638 rfl (lv_at hl 0 rfl) ?_
      refine lv_iconst (v := (1 : Int32)) hx hb dL_law_639 (by decide) ?_
      refine lv_iadd hx hb dL_law_640 ?_
      obtain ⟨v648, h649, hf⟩ := kBind hf
      refine ksld hx hb hX hbl hbA hS h649 dL_law_641 ?_
      obtain ⟨v650, h651, hf⟩ := kBind hf
      refine kgoR (krunV (wc := (wX4 cI a12 a13 a14 M SV MX ML MA MH)) (As := [.int v648]) (rest := [.int v646]) (ci := 4) hx hb hml hown hts hK (kX4_blocker l D cI fu a12 a13 a14 M SV MX ML MA MH v648 v650 h651) gL_law_X4_blocker rfl rfl rfl hdX4_blocker ⟨Nat.le_of_ble_eq_true rfl, Nat.le_of_ble_eq_true rfl⟩ (hP.sub [12, 13, 14] rfl) (hD.sub [12, 13, 14] (by decide) rfl) rfl rfl rfl rfl hl.1 rfl (Nat.le_of_ble_eq_true rfl) dL_law_642 ⟨Nat.le_of_ble_eq_true rfl, Nat.le_of_ble_eq_true rfl⟩) hP hD hS hA [12, 13, 14] rfl (fun H locs hP hS => ?_)
      refine lv_icmp_eq (tgt := 985) hx hb dL_law_645 (by decide) (fun c652 => ?_) (fun c652 => ?_)
      · have hf := kIfT c652 hf
        refine lv_iinc (v := x3 + (5 : Int32)) (lv' := [(3, .int (x3 + (5 : Int32))), (2, .ref a12), (1, .ref a0), (0, .ref b)]) hx hb dL_law_985 hl (k := 0) rfl rfl (by decide) rfl (fun ls hl => ?_)
        refine lv_goto (tgt := 18) hx hb dL_law_988 (by decide) ?_
        obtain ⟨z653, hz653⟩ : ∃ z : Int32, z = x3 + (5 : Int32) := ⟨_, rfl⟩
        rw [← hz653] at hf
        have he := (Option.some.inj hf).symm
        have hl : lv_has ls 4 [(3, .int z653), (2, .ref a12), (1, .ref a0), (0, .ref b)] := by rw [hz653]; exact lv_sub hl [0, 1, 2, 3] rfl
        exact hI1 _ he H locs ls hP hD hS hl
      · have hf := kIfF c652 hf
        refine lv_iconst (v := (0 : Int32)) hx hb dL_law_648 (by decide) ?_
        have he := hO1 _ (Option.some.inj hf).symm
        exact absurd he (by decide)
    have hf := kIfF c643 hf
    by_cases c654 : (v417 &&& (31 : Int32)) = (16 : Int32)
    · have hf := kIfT c654 hf
      unfold fL_law_c16 at hf
      refine lv_tableIn (off := 618) (tgt := 650) hx hb dL_law_32 (by rw [c654]; decide) (by rw [c654]; decide) (by rw [c654]; rfl) (by decide) ?_
      refine lv_aload_n hx hb dL_law_650 rfl (lv_at hl 2 rfl) ?_
      obtain ⟨v655, h656, hf⟩ := kBind hf
      refine kgoR (krunV (wc := (wX3 cI a0 a1 a2 a3 a4 a5 a6 a7 a8 a9 a10 a11 R R2 HR HS HN TB LN PS TC TW TG CM)) (As := []) (rest := []) (ci := 3) hx hb hml hown hts hK (kX3_cycle l D cI fu a0 a1 a2 a3 a4 a5 a6 a7 a8 a9 a10 a11 R R2 HR HS HN TB LN PS TC TW TG CM v655 h656) gL_law_X3_cycle rfl rfl rfl hdX3_cycle ⟨Nat.le_of_ble_eq_true rfl, Nat.le_of_ble_eq_true rfl⟩ (hP.sub [0, 1, 2, 3, 4, 5, 6, 7, 8, 9, 10, 11] rfl) (hD.sub [0, 1, 2, 3, 4, 5, 6, 7, 8, 9, 10, 11] (by decide) rfl) rfl rfl rfl rfl hl.1 rfl (Nat.le_of_ble_eq_true rfl) dL_law_651 ⟨Nat.le_of_ble_eq_true rfl, Nat.le_of_ble_eq_true rfl⟩) hP hD hS hA [0, 1, 2, 3, 4, 5, 6, 7, 8, 9, 10, 11] rfl (fun H locs hP hS => ?_)
      refine lv_aload_n hx hb dL_law_654 rfl (lv_at hl 1 rfl) ?_
      obtain ⟨v657, h658, hf⟩ := kBind hf
      refine kgoR (krunV (wc := (wX4 cI a12 a13 a14 M SV MX ML MA MH)) (As := []) (rest := [.int v655]) (ci := 4) hx hb hml hown hts hK (kX4_cycle l D cI fu a12 a13 a14 M SV MX ML MA MH v657 h658) gL_law_X4_cycle rfl rfl rfl hdX4_cycle ⟨Nat.le_of_ble_eq_true rfl, Nat.le_of_ble_eq_true rfl⟩ (hP.sub [12, 13, 14] rfl) (hD.sub [12, 13, 14] (by decide) rfl) rfl rfl rfl rfl hl.1 rfl (Nat.le_of_ble_eq_true rfl) dL_law_655 ⟨Nat.le_of_ble_eq_true rfl, Nat.le_of_ble_eq_true rfl⟩) hP hD hS hA [12, 13, 14] rfl (fun H locs hP hS => ?_)
      refine lv_icmp_eq (tgt := 985) hx hb dL_law_658 (by decide) (fun c659 => ?_) (fun c659 => ?_)
      · have hf := kIfT c659 hf
        refine lv_iinc (v := x3 + (5 : Int32)) (lv' := [(3, .int (x3 + (5 : Int32))), (2, .ref a12), (1, .ref a0), (0, .ref b)]) hx hb dL_law_985 hl (k := 0) rfl rfl (by decide) rfl (fun ls hl => ?_)
        refine lv_goto (tgt := 18) hx hb dL_law_988 (by decide) ?_
        obtain ⟨z660, hz660⟩ : ∃ z : Int32, z = x3 + (5 : Int32) := ⟨_, rfl⟩
        rw [← hz660] at hf
        have he := (Option.some.inj hf).symm
        have hl : lv_has ls 4 [(3, .int z660), (2, .ref a12), (1, .ref a0), (0, .ref b)] := by rw [hz660]; exact lv_sub hl [0, 1, 2, 3] rfl
        exact hI1 _ he H locs ls hP hD hS hl
      · have hf := kIfF c659 hf
        refine lv_iconst (v := (0 : Int32)) hx hb dL_law_661 (by decide) ?_
        have he := hO1 _ (Option.some.inj hf).symm
        exact absurd he (by decide)
    have hf := kIfF c654 hf
    by_cases c661 : (v417 &&& (31 : Int32)) = (17 : Int32)
    · have hf := kIfT c661 hf
      unfold fL_law_c17 at hf
      refine lv_tableIn (off := 631) (tgt := 663) hx hb dL_law_32 (by rw [c661]; decide) (by rw [c661]; decide) (by rw [c661]; rfl) (by decide) ?_
      refine lv_aload_n hx hb dL_law_663 rfl (lv_at hl 2 rfl) ?_
      obtain ⟨v662, h663, hf⟩ := kBind hf
      refine kgoJ (wr := [(a12, .inr (4, [.ref a13, .int SV, .ref a14, .int ML, .int MA, .long MH])), (a13, .inl (cI, 896, .inl M)), (a14, .inl (cI, 80, .inl MX))]) (w2 := (wX3_X4 cI a0 a1 a2 a3 a4 a5 a6 a7 a8 a9 a10 a11 a12 a13 a14 R v662.2 HR HS HN TB LN PS TC TW TG CM M SV MX ML MA MH)) (krunV (wc := (wX3 cI a0 a1 a2 a3 a4 a5 a6 a7 a8 a9 a10 a11 R R2 HR HS HN TB LN PS TC TW TG CM)) (As := []) (rest := []) (ci := 3) hx hb hml hown hts hK (kX3_allDone l D cI fu a0 a1 a2 a3 a4 a5 a6 a7 a8 a9 a10 a11 R R2 HR HS HN TB LN PS TC TW TG CM v662 h663) gL_law_X3_allDone rfl rfl rfl hdX3_allDone ⟨Nat.le_of_ble_eq_true rfl, Nat.le_of_ble_eq_true rfl⟩ (hP.sub [0, 1, 2, 3, 4, 5, 6, 7, 8, 9, 10, 11] rfl) (hD.sub [0, 1, 2, 3, 4, 5, 6, 7, 8, 9, 10, 11] (by decide) rfl) rfl rfl rfl rfl hl.1 rfl (Nat.le_of_ble_eq_true rfl) dL_law_664 ⟨Nat.le_of_ble_eq_true rfl, Nat.le_of_ble_eq_true rfl⟩) hP hD hS hA [0, 1, 2, 3, 4, 5, 6, 7, 8, 9, 10, 11] [12, 13, 14] [3, 4, 5, 6, 7, 8, 9, 10, 11, 12, 13, 14, 0, 1, 2] rfl rfl (by decide) (by decide) (by decide) rfl (fun H locs hP hD hS => ?_)
      refine lv_aload_n hx hb dL_law_667 rfl (lv_at hl 1 rfl) ?_
      obtain ⟨v664, h665, hf⟩ := kBind hf
      refine kgoJ (wr := [(a0, .inr (3, [.ref a1, .ref a3, .ref a5, .ref a7])), (a1, .inr (1, [.ref a2])), (a2, .inl (cI, 132, .inl R)), (a3, .inr (1, [.ref a4])), (a4, .inl (cI, 132, .inl v662.2)), (a5, .inr (0, [.ref a6, .int HS, .int HN])), (a6, .inl (cI, 660, .inl HR)), (a7, .inr (2, [.ref a8, .int LN, .int PS, .ref a9, .ref a10, .ref a11, .int CM])), (a8, .inl (cI, 80, .inl TB)), (a9, .inl (cI, 20, .inl TC)), (a10, .inl (cI, 20, .inl TW)), (a11, .inl (cI, 20, .inl TG))]) (w2 := (wX3_X4 cI a0 a1 a2 a3 a4 a5 a6 a7 a8 a9 a10 a11 a12 a13 a14 R v662.2 HR HS HN TB LN PS TC TW TG CM v664.2 SV MX ML MA MH)) (krunV (wc := (wX4 cI a12 a13 a14 M SV MX ML MA MH)) (As := []) (rest := [.int v662.1]) (ci := 4) hx hb hml hown hts hK (kX4_allDone l D cI fu a12 a13 a14 M SV MX ML MA MH v664 h665) gL_law_X4_allDone rfl rfl rfl hdX4_allDone ⟨Nat.le_of_ble_eq_true rfl, Nat.le_of_ble_eq_true rfl⟩ (hP.sub [12, 13, 14] rfl) (hD.sub [12, 13, 14] (by decide) rfl) rfl rfl rfl rfl hl.1 rfl (Nat.le_of_ble_eq_true rfl) dL_law_668 ⟨Nat.le_of_ble_eq_true rfl, Nat.le_of_ble_eq_true rfl⟩) hP hD hS hA [12, 13, 14] [0, 1, 2, 3, 4, 5, 6, 7, 8, 9, 10, 11] [0, 1, 2, 3, 4, 5, 6, 7, 8, 9, 10, 11, 12, 13, 14] rfl rfl (by decide) (by decide) (by decide) rfl (fun H locs hP hD hS => ?_)
      refine lv_icmp_eq (tgt := 985) hx hb dL_law_671 (by decide) (fun c666 => ?_) (fun c666 => ?_)
      · have hf := kIfT c666 hf
        refine lv_iinc (v := x3 + (5 : Int32)) (lv' := [(3, .int (x3 + (5 : Int32))), (2, .ref a12), (1, .ref a0), (0, .ref b)]) hx hb dL_law_985 hl (k := 0) rfl rfl (by decide) rfl (fun ls hl => ?_)
        refine lv_goto (tgt := 18) hx hb dL_law_988 (by decide) ?_
        obtain ⟨z667, hz667⟩ : ∃ z : Int32, z = x3 + (5 : Int32) := ⟨_, rfl⟩
        rw [← hz667] at hf
        have he := (Option.some.inj hf).symm
        have hl : lv_has ls 4 [(3, .int z667), (2, .ref a12), (1, .ref a0), (0, .ref b)] := by rw [hz667]; exact lv_sub hl [0, 1, 2, 3] rfl
        exact hI1 _ he H locs ls hP hD hS hl
      · have hf := kIfF c666 hf
        refine lv_iconst (v := (0 : Int32)) hx hb dL_law_674 (by decide) ?_
        have he := hO1 _ (Option.some.inj hf).symm
        exact absurd he (by decide)
    have hf := kIfF c661 hf
    by_cases c668 : (v417 &&& (31 : Int32)) = (18 : Int32)
    · have hf := kIfT c668 hf
      unfold fL_law_c18 at hf
      refine lv_tableIn (off := 644) (tgt := 676) hx hb dL_law_32 (by rw [c668]; decide) (by rw [c668]; decide) (by rw [c668]; rfl) (by decide) ?_
      refine lv_aload_n hx hb dL_law_676 rfl (lv_at hl 2 rfl) ?_
      refine lv_aload_n hx hb dL_law_677 rfl (lv_at hl 3 rfl) ?_
      refine lv_iload_n hx hb dL_law_678 rfl (lv_at hl 0 rfl) ?_
      refine lv_iconst (v := (1 : Int32)) hx hb dL_law_679 (by decide) ?_
      refine lv_iadd hx hb dL_law_680 ?_
      obtain ⟨v669, h670, hf⟩ := kBind hf
      refine ksld hx hb hX hbl hbA hS h670 dL_law_681 ?_
      obtain ⟨v671, h672, hf⟩ := kBind hf
      refine kgoJ (wr := [(a12, .inr (4, [.ref a13, .int SV, .ref a14, .int ML, .int MA, .long MH])), (a13, .inl (cI, 896, .inl M)), (a14, .inl (cI, 80, .inl MX))]) (w2 := (wX3_X4 cI a0 a1 a2 a3 a4 a5 a6 a7 a8 a9 a10 a11 a12 a13 a14 R v671.2 HR HS HN TB LN PS TC TW TG CM M SV MX ML MA MH)) (krunV (wc := (wX3 cI a0 a1 a2 a3 a4 a5 a6 a7 a8 a9 a10 a11 R R2 HR HS HN TB LN PS TC TW TG CM)) (As := [.int v669]) (rest := []) (ci := 3) hx hb hml hown hts hK (kX3_done l D cI fu a0 a1 a2 a3 a4 a5 a6 a7 a8 a9 a10 a11 R R2 HR HS HN TB LN PS TC TW TG CM v669 v671 h672) gL_law_X3_done rfl rfl rfl hdX3_done ⟨Nat.le_of_ble_eq_true rfl, Nat.le_of_ble_eq_true rfl⟩ (hP.sub [0, 1, 2, 3, 4, 5, 6, 7, 8, 9, 10, 11] rfl) (hD.sub [0, 1, 2, 3, 4, 5, 6, 7, 8, 9, 10, 11] (by decide) rfl) rfl rfl rfl rfl hl.1 rfl (Nat.le_of_ble_eq_true rfl) dL_law_682 ⟨Nat.le_of_ble_eq_true rfl, Nat.le_of_ble_eq_true rfl⟩) hP hD hS hA [0, 1, 2, 3, 4, 5, 6, 7, 8, 9, 10, 11] [12, 13, 14] [3, 4, 5, 6, 7, 8, 9, 10, 11, 12, 13, 14, 0, 1, 2] rfl rfl (by decide) (by decide) (by decide) rfl (fun H locs hP hD hS => ?_)
      refine lv_aload_n hx hb dL_law_685 rfl (lv_at hl 1 rfl) ?_
      refine lv_aload_n hx hb dL_law_686 rfl (lv_at hl 3 rfl) ?_
      refine lv_iload_n hx hb dL_law_687 rfl (lv_at hl 0 rfl) ?_
      refine lv_iconst (v := (1 : Int32)) hx hb dL_law_688 (by decide) ?_
      refine lv_iadd hx hb dL_law_689 ?_
      obtain ⟨v673, h674, hf⟩ := kBind hf
      refine ksld hx hb hX hbl hbA hS h674 dL_law_690 ?_
      obtain ⟨v675, h676, hf⟩ := kBind hf
      refine kgoJ (wr := [(a0, .inr (3, [.ref a1, .ref a3, .ref a5, .ref a7])), (a1, .inr (1, [.ref a2])), (a2, .inl (cI, 132, .inl R)), (a3, .inr (1, [.ref a4])), (a4, .inl (cI, 132, .inl v671.2)), (a5, .inr (0, [.ref a6, .int HS, .int HN])), (a6, .inl (cI, 660, .inl HR)), (a7, .inr (2, [.ref a8, .int LN, .int PS, .ref a9, .ref a10, .ref a11, .int CM])), (a8, .inl (cI, 80, .inl TB)), (a9, .inl (cI, 20, .inl TC)), (a10, .inl (cI, 20, .inl TW)), (a11, .inl (cI, 20, .inl TG))]) (w2 := (wX3_X4 cI a0 a1 a2 a3 a4 a5 a6 a7 a8 a9 a10 a11 a12 a13 a14 R v671.2 HR HS HN TB LN PS TC TW TG CM v675.2 SV MX ML MA MH)) (krunV (wc := (wX4 cI a12 a13 a14 M SV MX ML MA MH)) (As := [.int v673]) (rest := [.int v671.1]) (ci := 4) hx hb hml hown hts hK (kX4_done l D cI fu a12 a13 a14 M SV MX ML MA MH v673 v675 h676) gL_law_X4_done rfl rfl rfl hdX4_done ⟨Nat.le_of_ble_eq_true rfl, Nat.le_of_ble_eq_true rfl⟩ (hP.sub [12, 13, 14] rfl) (hD.sub [12, 13, 14] (by decide) rfl) rfl rfl rfl rfl hl.1 rfl (Nat.le_of_ble_eq_true rfl) dL_law_691 ⟨Nat.le_of_ble_eq_true rfl, Nat.le_of_ble_eq_true rfl⟩) hP hD hS hA [12, 13, 14] [0, 1, 2, 3, 4, 5, 6, 7, 8, 9, 10, 11] [0, 1, 2, 3, 4, 5, 6, 7, 8, 9, 10, 11, 12, 13, 14] rfl rfl (by decide) (by decide) (by decide) rfl (fun H locs hP hD hS => ?_)
      refine lv_icmp_eq (tgt := 985) hx hb dL_law_694 (by decide) (fun c677 => ?_) (fun c677 => ?_)
      · have hf := kIfT c677 hf
        refine lv_iinc (v := x3 + (5 : Int32)) (lv' := [(3, .int (x3 + (5 : Int32))), (2, .ref a12), (1, .ref a0), (0, .ref b)]) hx hb dL_law_985 hl (k := 0) rfl rfl (by decide) rfl (fun ls hl => ?_)
        refine lv_goto (tgt := 18) hx hb dL_law_988 (by decide) ?_
        obtain ⟨z678, hz678⟩ : ∃ z : Int32, z = x3 + (5 : Int32) := ⟨_, rfl⟩
        rw [← hz678] at hf
        have he := (Option.some.inj hf).symm
        have hl : lv_has ls 4 [(3, .int z678), (2, .ref a12), (1, .ref a0), (0, .ref b)] := by rw [hz678]; exact lv_sub hl [0, 1, 2, 3] rfl
        exact hI1 _ he H locs ls hP hD hS hl
      · have hf := kIfF c677 hf
        refine lv_iconst (v := (0 : Int32)) hx hb dL_law_697 (by decide) ?_
        have he := hO1 _ (Option.some.inj hf).symm
        exact absurd he (by decide)
    have hf := kIfF c668 hf
    by_cases c679 : (v417 &&& (31 : Int32)) = (19 : Int32)
    · have hf := kIfT c679 hf
      unfold fL_law_c19 at hf
      refine lv_tableIn (off := 667) (tgt := 699) hx hb dL_law_32 (by rw [c679]; decide) (by rw [c679]; decide) (by rw [c679]; rfl) (by decide) ?_
      refine lv_aload_n hx hb dL_law_699 rfl (lv_at hl 2 rfl) ?_
      refine lv_aload_n hx hb dL_law_700 rfl (lv_at hl 3 rfl) ?_
      refine lv_iload_n hx hb dL_law_701 rfl (lv_at hl 0 rfl) ?_
      refine lv_iconst (v := (1 : Int32)) hx hb dL_law_702 (by decide) ?_
      refine lv_iadd hx hb dL_law_703 ?_
      obtain ⟨v680, h681, hf⟩ := kBind hf
      refine ksld hx hb hX hbl hbA hS h681 dL_law_704 ?_
      refine lv_aload_n hx hb dL_law_705 rfl (lv_at hl 3 rfl) ?_
      refine lv_iload_n hx hb dL_law_706 rfl (lv_at hl 0 rfl) ?_
      refine lv_iconst (v := (2 : Int32)) hx hb dL_law_707 (by decide) ?_
      refine lv_iadd hx hb dL_law_708 ?_
      obtain ⟨v682, h683, hf⟩ := kBind hf
      refine ksld hx hb hX hbl hbA hS h683 dL_law_709 ?_
      obtain ⟨v684, h685, hf⟩ := kBind hf
      refine kgoJ (wr := [(a12, .inr (4, [.ref a13, .int SV, .ref a14, .int ML, .int MA, .long MH])), (a13, .inl (cI, 896, .inl M)), (a14, .inl (cI, 80, .inl MX))]) (w2 := (wX3_X4 cI a0 a1 a2 a3 a4 a5 a6 a7 a8 a9 a10 a11 a12 a13 a14 R v684.2 HR HS HN TB LN PS TC TW TG CM M SV MX ML MA MH)) (krunV (wc := (wX3 cI a0 a1 a2 a3 a4 a5 a6 a7 a8 a9 a10 a11 R R2 HR HS HN TB LN PS TC TW TG CM)) (As := [.int v680, .int v682]) (rest := []) (ci := 3) hx hb hml hown hts hK (kX3_waits l D cI fu a0 a1 a2 a3 a4 a5 a6 a7 a8 a9 a10 a11 R R2 HR HS HN TB LN PS TC TW TG CM v680 v682 v684 h685) gL_law_X3_waits rfl rfl rfl hdX3_waits ⟨Nat.le_of_ble_eq_true rfl, Nat.le_of_ble_eq_true rfl⟩ (hP.sub [0, 1, 2, 3, 4, 5, 6, 7, 8, 9, 10, 11] rfl) (hD.sub [0, 1, 2, 3, 4, 5, 6, 7, 8, 9, 10, 11] (by decide) rfl) rfl rfl rfl rfl hl.1 rfl (Nat.le_of_ble_eq_true rfl) dL_law_710 ⟨Nat.le_of_ble_eq_true rfl, Nat.le_of_ble_eq_true rfl⟩) hP hD hS hA [0, 1, 2, 3, 4, 5, 6, 7, 8, 9, 10, 11] [12, 13, 14] [3, 4, 5, 6, 7, 8, 9, 10, 11, 12, 13, 14, 0, 1, 2] rfl rfl (by decide) (by decide) (by decide) rfl (fun H locs hP hD hS => ?_)
      refine lv_aload_n hx hb dL_law_713 rfl (lv_at hl 1 rfl) ?_
      refine lv_aload_n hx hb dL_law_714 rfl (lv_at hl 3 rfl) ?_
      refine lv_iload_n hx hb dL_law_715 rfl (lv_at hl 0 rfl) ?_
      refine lv_iconst (v := (1 : Int32)) hx hb dL_law_716 (by decide) ?_
      refine lv_iadd hx hb dL_law_717 ?_
      obtain ⟨v686, h687, hf⟩ := kBind hf
      refine ksld hx hb hX hbl hbA hS h687 dL_law_718 ?_
      refine lv_aload_n hx hb dL_law_719 rfl (lv_at hl 3 rfl) ?_
      refine lv_iload_n hx hb dL_law_720 rfl (lv_at hl 0 rfl) ?_
      refine lv_iconst (v := (2 : Int32)) hx hb dL_law_721 (by decide) ?_
      refine lv_iadd hx hb dL_law_722 ?_
      obtain ⟨v688, h689, hf⟩ := kBind hf
      refine ksld hx hb hX hbl hbA hS h689 dL_law_723 ?_
      obtain ⟨v690, h691, hf⟩ := kBind hf
      refine kgoJ (wr := [(a0, .inr (3, [.ref a1, .ref a3, .ref a5, .ref a7])), (a1, .inr (1, [.ref a2])), (a2, .inl (cI, 132, .inl R)), (a3, .inr (1, [.ref a4])), (a4, .inl (cI, 132, .inl v684.2)), (a5, .inr (0, [.ref a6, .int HS, .int HN])), (a6, .inl (cI, 660, .inl HR)), (a7, .inr (2, [.ref a8, .int LN, .int PS, .ref a9, .ref a10, .ref a11, .int CM])), (a8, .inl (cI, 80, .inl TB)), (a9, .inl (cI, 20, .inl TC)), (a10, .inl (cI, 20, .inl TW)), (a11, .inl (cI, 20, .inl TG))]) (w2 := (wX3_X4 cI a0 a1 a2 a3 a4 a5 a6 a7 a8 a9 a10 a11 a12 a13 a14 R v684.2 HR HS HN TB LN PS TC TW TG CM v690.2 SV MX ML MA MH)) (krunV (wc := (wX4 cI a12 a13 a14 M SV MX ML MA MH)) (As := [.int v686, .int v688]) (rest := [.int v684.1]) (ci := 4) hx hb hml hown hts hK (kX4_waits l D cI fu a12 a13 a14 M SV MX ML MA MH v686 v688 v690 h691) gL_law_X4_waits rfl rfl rfl hdX4_waits ⟨Nat.le_of_ble_eq_true rfl, Nat.le_of_ble_eq_true rfl⟩ (hP.sub [12, 13, 14] rfl) (hD.sub [12, 13, 14] (by decide) rfl) rfl rfl rfl rfl hl.1 rfl (Nat.le_of_ble_eq_true rfl) dL_law_724 ⟨Nat.le_of_ble_eq_true rfl, Nat.le_of_ble_eq_true rfl⟩) hP hD hS hA [12, 13, 14] [0, 1, 2, 3, 4, 5, 6, 7, 8, 9, 10, 11] [0, 1, 2, 3, 4, 5, 6, 7, 8, 9, 10, 11, 12, 13, 14] rfl rfl (by decide) (by decide) (by decide) rfl (fun H locs hP hD hS => ?_)
      refine lv_icmp_eq (tgt := 985) hx hb dL_law_727 (by decide) (fun c692 => ?_) (fun c692 => ?_)
      · have hf := kIfT c692 hf
        refine lv_iinc (v := x3 + (5 : Int32)) (lv' := [(3, .int (x3 + (5 : Int32))), (2, .ref a12), (1, .ref a0), (0, .ref b)]) hx hb dL_law_985 hl (k := 0) rfl rfl (by decide) rfl (fun ls hl => ?_)
        refine lv_goto (tgt := 18) hx hb dL_law_988 (by decide) ?_
        obtain ⟨z693, hz693⟩ : ∃ z : Int32, z = x3 + (5 : Int32) := ⟨_, rfl⟩
        rw [← hz693] at hf
        have he := (Option.some.inj hf).symm
        have hl : lv_has ls 4 [(3, .int z693), (2, .ref a12), (1, .ref a0), (0, .ref b)] := by rw [hz693]; exact lv_sub hl [0, 1, 2, 3] rfl
        exact hI1 _ he H locs ls hP hD hS hl
      · have hf := kIfF c692 hf
        refine lv_iconst (v := (0 : Int32)) hx hb dL_law_730 (by decide) ?_
        have he := hO1 _ (Option.some.inj hf).symm
        exact absurd he (by decide)
    have hf := kIfF c679 hf
    by_cases c694 : (v417 &&& (31 : Int32)) = (20 : Int32)
    · have hf := kIfT c694 hf
      unfold fL_law_c20 at hf
      refine lv_tableIn (off := 700) (tgt := 732) hx hb dL_law_32 (by rw [c694]; decide) (by rw [c694]; decide) (by rw [c694]; rfl) (by decide) ?_
      refine lv_aload_n hx hb dL_law_732 rfl (lv_at hl 2 rfl) ?_
      refine lv_aload_n hx hb dL_law_733 rfl (lv_at hl 3 rfl) ?_
      refine lv_iload_n hx hb dL_law_734 rfl (lv_at hl 0 rfl) ?_
      refine lv_iconst (v := (1 : Int32)) hx hb dL_law_735 (by decide) ?_
      refine lv_iadd hx hb dL_law_736 ?_
      obtain ⟨v695, h696, hf⟩ := kBind hf
      refine ksld hx hb hX hbl hbA hS h696 dL_law_737 ?_
      obtain ⟨v697, h698, hf⟩ := kBind hf
      refine kgoJ (wr := [(a12, .inr (4, [.ref a13, .int SV, .ref a14, .int ML, .int MA, .long MH])), (a13, .inl (cI, 896, .inl M)), (a14, .inl (cI, 80, .inl MX))]) (w2 := (wX3_X4 cI a0 a1 a2 a3 a4 a5 a6 a7 a8 a9 a10 a11 a12 a13 a14 v697.2.1 R2 v697.2.2.1 v697.2.2.2.1 v697.2.2.2.2 TB LN PS TC TW TG CM M SV MX ML MA MH)) (krunV (wc := (wX3 cI a0 a1 a2 a3 a4 a5 a6 a7 a8 a9 a10 a11 R R2 HR HS HN TB LN PS TC TW TG CM)) (As := [.int v695]) (rest := []) (ci := 3) hx hb hml hown hts hK (kX3_setWind l D cI a0 a1 a2 a3 a4 a5 a6 a7 a8 a9 a10 a11 R R2 HR HS HN TB LN PS TC TW TG CM v695 v697 h698) gL_law_X3_setWind rfl rfl rfl hdX3_setWind ⟨Nat.le_of_ble_eq_true rfl, Nat.le_of_ble_eq_true rfl⟩ (hP.sub [0, 1, 2, 3, 4, 5, 6, 7, 8, 9, 10, 11] rfl) (hD.sub [0, 1, 2, 3, 4, 5, 6, 7, 8, 9, 10, 11] (by decide) rfl) rfl rfl rfl rfl hl.1 rfl (Nat.le_of_ble_eq_true rfl) dL_law_738 ⟨Nat.le_of_ble_eq_true rfl, Nat.le_of_ble_eq_true rfl⟩) hP hD hS hA [0, 1, 2, 3, 4, 5, 6, 7, 8, 9, 10, 11] [12, 13, 14] [3, 4, 5, 6, 7, 8, 9, 10, 11, 12, 13, 14, 0, 1, 2] rfl rfl (by decide) (by decide) (by decide) rfl (fun H locs hP hD hS => ?_)
      refine lv_aload_n hx hb dL_law_741 rfl (lv_at hl 1 rfl) ?_
      refine lv_aload_n hx hb dL_law_742 rfl (lv_at hl 3 rfl) ?_
      refine lv_iload_n hx hb dL_law_743 rfl (lv_at hl 0 rfl) ?_
      refine lv_iconst (v := (1 : Int32)) hx hb dL_law_744 (by decide) ?_
      refine lv_iadd hx hb dL_law_745 ?_
      obtain ⟨v699, h700, hf⟩ := kBind hf
      refine ksld hx hb hX hbl hbA hS h700 dL_law_746 ?_
      obtain ⟨v701, h702, hf⟩ := kBind hf
      refine kgoJ (wr := [(a0, .inr (3, [.ref a1, .ref a3, .ref a5, .ref a7])), (a1, .inr (1, [.ref a2])), (a2, .inl (cI, 132, .inl v697.2.1)), (a3, .inr (1, [.ref a4])), (a4, .inl (cI, 132, .inl R2)), (a5, .inr (0, [.ref a6, .int v697.2.2.2.1, .int v697.2.2.2.2])), (a6, .inl (cI, 660, .inl v697.2.2.1)), (a7, .inr (2, [.ref a8, .int LN, .int PS, .ref a9, .ref a10, .ref a11, .int CM])), (a8, .inl (cI, 80, .inl TB)), (a9, .inl (cI, 20, .inl TC)), (a10, .inl (cI, 20, .inl TW)), (a11, .inl (cI, 20, .inl TG))]) (w2 := (wX3_X4 cI a0 a1 a2 a3 a4 a5 a6 a7 a8 a9 a10 a11 a12 a13 a14 v697.2.1 R2 v697.2.2.1 v697.2.2.2.1 v697.2.2.2.2 TB LN PS TC TW TG CM v701.2.1 v701.2.2 MX ML MA MH)) (krunV (wc := (wX4 cI a12 a13 a14 M SV MX ML MA MH)) (As := [.int v699]) (rest := [.int v697.1]) (ci := 4) hx hb hml hown hts hK (kX4_setWind l D cI fu a12 a13 a14 M SV MX ML MA MH v699 v701 h702) gL_law_X4_setWind rfl rfl rfl hdX4_setWind ⟨Nat.le_of_ble_eq_true rfl, Nat.le_of_ble_eq_true rfl⟩ (hP.sub [12, 13, 14] rfl) (hD.sub [12, 13, 14] (by decide) rfl) rfl rfl rfl rfl hl.1 rfl (Nat.le_of_ble_eq_true rfl) dL_law_747 ⟨Nat.le_of_ble_eq_true rfl, Nat.le_of_ble_eq_true rfl⟩) hP hD hS hA [12, 13, 14] [0, 1, 2, 3, 4, 5, 6, 7, 8, 9, 10, 11] [0, 1, 2, 3, 4, 5, 6, 7, 8, 9, 10, 11, 12, 13, 14] rfl rfl (by decide) (by decide) (by decide) rfl (fun H locs hP hD hS => ?_)
      refine lv_icmp_eq (tgt := 985) hx hb dL_law_750 (by decide) (fun c703 => ?_) (fun c703 => ?_)
      · have hf := kIfT c703 hf
        refine lv_iinc (v := x3 + (5 : Int32)) (lv' := [(3, .int (x3 + (5 : Int32))), (2, .ref a12), (1, .ref a0), (0, .ref b)]) hx hb dL_law_985 hl (k := 0) rfl rfl (by decide) rfl (fun ls hl => ?_)
        refine lv_goto (tgt := 18) hx hb dL_law_988 (by decide) ?_
        obtain ⟨z704, hz704⟩ : ∃ z : Int32, z = x3 + (5 : Int32) := ⟨_, rfl⟩
        rw [← hz704] at hf
        have he := (Option.some.inj hf).symm
        have hl : lv_has ls 4 [(3, .int z704), (2, .ref a12), (1, .ref a0), (0, .ref b)] := by rw [hz704]; exact lv_sub hl [0, 1, 2, 3] rfl
        exact hI1 _ he H locs ls hP hD hS hl
      · have hf := kIfF c703 hf
        refine lv_iconst (v := (0 : Int32)) hx hb dL_law_753 (by decide) ?_
        have he := hO1 _ (Option.some.inj hf).symm
        exact absurd he (by decide)
    have hf := kIfF c694 hf
    by_cases c705 : (v417 &&& (31 : Int32)) = (21 : Int32)
    · have hf := kIfT c705 hf
      unfold fL_law_c21 at hf
      refine lv_tableIn (off := 723) (tgt := 755) hx hb dL_law_32 (by rw [c705]; decide) (by rw [c705]; decide) (by rw [c705]; rfl) (by decide) ?_
      refine lv_aload_n hx hb dL_law_755 rfl (lv_at hl 2 rfl) ?_
      refine lv_aload_n hx hb dL_law_756 rfl (lv_at hl 3 rfl) ?_
      refine lv_iload_n hx hb dL_law_757 rfl (lv_at hl 0 rfl) ?_
      refine lv_iconst (v := (1 : Int32)) hx hb dL_law_758 (by decide) ?_
      refine lv_iadd hx hb dL_law_759 ?_
      obtain ⟨v706, h707, hf⟩ := kBind hf
      refine ksld hx hb hX hbl hbA hS h707 dL_law_760 ?_
      refine lv_aload_n hx hb dL_law_761 rfl (lv_at hl 3 rfl) ?_
      refine lv_iload_n hx hb dL_law_762 rfl (lv_at hl 0 rfl) ?_
      refine lv_iconst (v := (2 : Int32)) hx hb dL_law_763 (by decide) ?_
      refine lv_iadd hx hb dL_law_764 ?_
      obtain ⟨v708, h709, hf⟩ := kBind hf
      refine ksld hx hb hX hbl hbA hS h709 dL_law_765 ?_
      refine lv_if_eq (tgt := 773) hx hb dL_law_766 (by decide) (fun c710 => ?_) (fun c710 => ?_)
      · have hf := kIfT c710 hf
        refine lv_iconst (v := (0 : Int32)) hx hb dL_law_773 (by decide) ?_
        obtain ⟨v711, h712, hf⟩ := kBind hf
        refine kgoJ (wr := [(a12, .inr (4, [.ref a13, .int SV, .ref a14, .int ML, .int MA, .long MH])), (a13, .inl (cI, 896, .inl M)), (a14, .inl (cI, 80, .inl MX))]) (w2 := (wX3_X4 cI a0 a1 a2 a3 a4 a5 a6 a7 a8 a9 a10 a11 a12 a13 a14 v711.2.1 R2 v711.2.2.1 v711.2.2.2.1 v711.2.2.2.2 TB LN PS TC TW TG CM M SV MX ML MA MH)) (krunV (wc := (wX3 cI a0 a1 a2 a3 a4 a5 a6 a7 a8 a9 a10 a11 R R2 HR HS HN TB LN PS TC TW TG CM)) (As := [.int v706, .int (bI false)]) (rest := []) (ci := 3) hx hb hml hown hts hK (kX3_leave l D cI fu a0 a1 a2 a3 a4 a5 a6 a7 a8 a9 a10 a11 R R2 HR HS HN TB LN PS TC TW TG CM v706 false v711 h712) gL_law_X3_leave rfl rfl rfl hdX3_leave ⟨Nat.le_of_ble_eq_true rfl, Nat.le_of_ble_eq_true rfl⟩ (hP.sub [0, 1, 2, 3, 4, 5, 6, 7, 8, 9, 10, 11] rfl) (hD.sub [0, 1, 2, 3, 4, 5, 6, 7, 8, 9, 10, 11] (by decide) rfl) rfl rfl rfl rfl hl.1 rfl (Nat.le_of_ble_eq_true rfl) dL_law_774 ⟨Nat.le_of_ble_eq_true rfl, Nat.le_of_ble_eq_true rfl⟩) hP hD hS hA [0, 1, 2, 3, 4, 5, 6, 7, 8, 9, 10, 11] [12, 13, 14] [3, 4, 5, 6, 7, 8, 9, 10, 11, 12, 13, 14, 0, 1, 2] rfl rfl (by decide) (by decide) (by decide) rfl (fun H locs hP hD hS => ?_)
        refine lv_aload_n hx hb dL_law_777 rfl (lv_at hl 1 rfl) ?_
        refine lv_aload_n hx hb dL_law_778 rfl (lv_at hl 3 rfl) ?_
        refine lv_iload_n hx hb dL_law_779 rfl (lv_at hl 0 rfl) ?_
        refine lv_iconst (v := (1 : Int32)) hx hb dL_law_780 (by decide) ?_
        refine lv_iadd hx hb dL_law_781 ?_
        obtain ⟨v713, h714, hf⟩ := kBind hf
        refine ksld hx hb hX hbl hbA hS h714 dL_law_782 ?_
        refine lv_aload_n hx hb dL_law_783 rfl (lv_at hl 3 rfl) ?_
        refine lv_iload_n hx hb dL_law_784 rfl (lv_at hl 0 rfl) ?_
        refine lv_iconst (v := (2 : Int32)) hx hb dL_law_785 (by decide) ?_
        refine lv_iadd hx hb dL_law_786 ?_
        obtain ⟨v715, h716, hf⟩ := kBind hf
        refine ksld hx hb hX hbl hbA hS h716 dL_law_787 ?_
        refine lv_if_eq (tgt := 795) hx hb dL_law_788 (by decide) (fun c717 => ?_) (fun c717 => ?_)
        · have hf := kIfT c717 hf
          refine lv_iconst (v := (0 : Int32)) hx hb dL_law_795 (by decide) ?_
          obtain ⟨v718, h719, hf⟩ := kBind hf
          refine kgoJ (wr := [(a0, .inr (3, [.ref a1, .ref a3, .ref a5, .ref a7])), (a1, .inr (1, [.ref a2])), (a2, .inl (cI, 132, .inl v711.2.1)), (a3, .inr (1, [.ref a4])), (a4, .inl (cI, 132, .inl R2)), (a5, .inr (0, [.ref a6, .int v711.2.2.2.1, .int v711.2.2.2.2])), (a6, .inl (cI, 660, .inl v711.2.2.1)), (a7, .inr (2, [.ref a8, .int LN, .int PS, .ref a9, .ref a10, .ref a11, .int CM])), (a8, .inl (cI, 80, .inl TB)), (a9, .inl (cI, 20, .inl TC)), (a10, .inl (cI, 20, .inl TW)), (a11, .inl (cI, 20, .inl TG))]) (w2 := (wX3_X4 cI a0 a1 a2 a3 a4 a5 a6 a7 a8 a9 a10 a11 a12 a13 a14 v711.2.1 R2 v711.2.2.1 v711.2.2.2.1 v711.2.2.2.2 TB LN PS TC TW TG CM v718.2.1 v718.2.2 MX ML MA MH)) (krunV (wc := (wX4 cI a12 a13 a14 M SV MX ML MA MH)) (As := [.int v713, .int (bI false)]) (rest := [.int v711.1]) (ci := 4) hx hb hml hown hts hK (kX4_leave l D cI fu a12 a13 a14 M SV MX ML MA MH v713 false v718 h719) gL_law_X4_leave rfl rfl rfl hdX4_leave ⟨Nat.le_of_ble_eq_true rfl, Nat.le_of_ble_eq_true rfl⟩ (hP.sub [12, 13, 14] rfl) (hD.sub [12, 13, 14] (by decide) rfl) rfl rfl rfl rfl hl.1 rfl (Nat.le_of_ble_eq_true rfl) dL_law_796 ⟨Nat.le_of_ble_eq_true rfl, Nat.le_of_ble_eq_true rfl⟩) hP hD hS hA [12, 13, 14] [0, 1, 2, 3, 4, 5, 6, 7, 8, 9, 10, 11] [0, 1, 2, 3, 4, 5, 6, 7, 8, 9, 10, 11, 12, 13, 14] rfl rfl (by decide) (by decide) (by decide) rfl (fun H locs hP hD hS => ?_)
          refine lv_icmp_eq (tgt := 985) hx hb dL_law_799 (by decide) (fun c720 => ?_) (fun c720 => ?_)
          · have hf := kIfT c720 hf
            refine lv_iinc (v := x3 + (5 : Int32)) (lv' := [(3, .int (x3 + (5 : Int32))), (2, .ref a12), (1, .ref a0), (0, .ref b)]) hx hb dL_law_985 hl (k := 0) rfl rfl (by decide) rfl (fun ls hl => ?_)
            refine lv_goto (tgt := 18) hx hb dL_law_988 (by decide) ?_
            obtain ⟨z721, hz721⟩ : ∃ z : Int32, z = x3 + (5 : Int32) := ⟨_, rfl⟩
            rw [← hz721] at hf
            have he := (Option.some.inj hf).symm
            have hl : lv_has ls 4 [(3, .int z721), (2, .ref a12), (1, .ref a0), (0, .ref b)] := by rw [hz721]; exact lv_sub hl [0, 1, 2, 3] rfl
            exact hI1 _ he H locs ls hP hD hS hl
          · have hf := kIfF c720 hf
            refine lv_iconst (v := (0 : Int32)) hx hb dL_law_802 (by decide) ?_
            have he := hO1 _ (Option.some.inj hf).symm
            exact absurd he (by decide)
        · have hf := kIfF c717 hf
          refine lv_iconst (v := (1 : Int32)) hx hb dL_law_791 (by decide) ?_
          refine lv_goto (tgt := 796) hx hb dL_law_792 (by decide) ?_
          obtain ⟨v722, h723, hf⟩ := kBind hf
          refine kgoJ (wr := [(a0, .inr (3, [.ref a1, .ref a3, .ref a5, .ref a7])), (a1, .inr (1, [.ref a2])), (a2, .inl (cI, 132, .inl v711.2.1)), (a3, .inr (1, [.ref a4])), (a4, .inl (cI, 132, .inl R2)), (a5, .inr (0, [.ref a6, .int v711.2.2.2.1, .int v711.2.2.2.2])), (a6, .inl (cI, 660, .inl v711.2.2.1)), (a7, .inr (2, [.ref a8, .int LN, .int PS, .ref a9, .ref a10, .ref a11, .int CM])), (a8, .inl (cI, 80, .inl TB)), (a9, .inl (cI, 20, .inl TC)), (a10, .inl (cI, 20, .inl TW)), (a11, .inl (cI, 20, .inl TG))]) (w2 := (wX3_X4 cI a0 a1 a2 a3 a4 a5 a6 a7 a8 a9 a10 a11 a12 a13 a14 v711.2.1 R2 v711.2.2.1 v711.2.2.2.1 v711.2.2.2.2 TB LN PS TC TW TG CM v722.2.1 v722.2.2 MX ML MA MH)) (krunV (wc := (wX4 cI a12 a13 a14 M SV MX ML MA MH)) (As := [.int v713, .int (bI true)]) (rest := [.int v711.1]) (ci := 4) hx hb hml hown hts hK (kX4_leave l D cI fu a12 a13 a14 M SV MX ML MA MH v713 true v722 h723) gL_law_X4_leave rfl rfl rfl hdX4_leave ⟨Nat.le_of_ble_eq_true rfl, Nat.le_of_ble_eq_true rfl⟩ (hP.sub [12, 13, 14] rfl) (hD.sub [12, 13, 14] (by decide) rfl) rfl rfl rfl rfl hl.1 rfl (Nat.le_of_ble_eq_true rfl) dL_law_796 ⟨Nat.le_of_ble_eq_true rfl, Nat.le_of_ble_eq_true rfl⟩) hP hD hS hA [12, 13, 14] [0, 1, 2, 3, 4, 5, 6, 7, 8, 9, 10, 11] [0, 1, 2, 3, 4, 5, 6, 7, 8, 9, 10, 11, 12, 13, 14] rfl rfl (by decide) (by decide) (by decide) rfl (fun H locs hP hD hS => ?_)
          refine lv_icmp_eq (tgt := 985) hx hb dL_law_799 (by decide) (fun c724 => ?_) (fun c724 => ?_)
          · have hf := kIfT c724 hf
            refine lv_iinc (v := x3 + (5 : Int32)) (lv' := [(3, .int (x3 + (5 : Int32))), (2, .ref a12), (1, .ref a0), (0, .ref b)]) hx hb dL_law_985 hl (k := 0) rfl rfl (by decide) rfl (fun ls hl => ?_)
            refine lv_goto (tgt := 18) hx hb dL_law_988 (by decide) ?_
            obtain ⟨z725, hz725⟩ : ∃ z : Int32, z = x3 + (5 : Int32) := ⟨_, rfl⟩
            rw [← hz725] at hf
            have he := (Option.some.inj hf).symm
            have hl : lv_has ls 4 [(3, .int z725), (2, .ref a12), (1, .ref a0), (0, .ref b)] := by rw [hz725]; exact lv_sub hl [0, 1, 2, 3] rfl
            exact hI1 _ he H locs ls hP hD hS hl
          · have hf := kIfF c724 hf
            refine lv_iconst (v := (0 : Int32)) hx hb dL_law_802 (by decide) ?_
            have he := hO1 _ (Option.some.inj hf).symm
            exact absurd he (by decide)
      · have hf := kIfF c710 hf
        refine lv_iconst (v := (1 : Int32)) hx hb dL_law_769 (by decide) ?_
        refine lv_goto (tgt := 774) hx hb dL_law_770 (by decide) ?_
        obtain ⟨v726, h727, hf⟩ := kBind hf
        refine kgoJ (wr := [(a12, .inr (4, [.ref a13, .int SV, .ref a14, .int ML, .int MA, .long MH])), (a13, .inl (cI, 896, .inl M)), (a14, .inl (cI, 80, .inl MX))]) (w2 := (wX3_X4 cI a0 a1 a2 a3 a4 a5 a6 a7 a8 a9 a10 a11 a12 a13 a14 v726.2.1 R2 v726.2.2.1 v726.2.2.2.1 v726.2.2.2.2 TB LN PS TC TW TG CM M SV MX ML MA MH)) (krunV (wc := (wX3 cI a0 a1 a2 a3 a4 a5 a6 a7 a8 a9 a10 a11 R R2 HR HS HN TB LN PS TC TW TG CM)) (As := [.int v706, .int (bI true)]) (rest := []) (ci := 3) hx hb hml hown hts hK (kX3_leave l D cI fu a0 a1 a2 a3 a4 a5 a6 a7 a8 a9 a10 a11 R R2 HR HS HN TB LN PS TC TW TG CM v706 true v726 h727) gL_law_X3_leave rfl rfl rfl hdX3_leave ⟨Nat.le_of_ble_eq_true rfl, Nat.le_of_ble_eq_true rfl⟩ (hP.sub [0, 1, 2, 3, 4, 5, 6, 7, 8, 9, 10, 11] rfl) (hD.sub [0, 1, 2, 3, 4, 5, 6, 7, 8, 9, 10, 11] (by decide) rfl) rfl rfl rfl rfl hl.1 rfl (Nat.le_of_ble_eq_true rfl) dL_law_774 ⟨Nat.le_of_ble_eq_true rfl, Nat.le_of_ble_eq_true rfl⟩) hP hD hS hA [0, 1, 2, 3, 4, 5, 6, 7, 8, 9, 10, 11] [12, 13, 14] [3, 4, 5, 6, 7, 8, 9, 10, 11, 12, 13, 14, 0, 1, 2] rfl rfl (by decide) (by decide) (by decide) rfl (fun H locs hP hD hS => ?_)
        refine lv_aload_n hx hb dL_law_777 rfl (lv_at hl 1 rfl) ?_
        refine lv_aload_n hx hb dL_law_778 rfl (lv_at hl 3 rfl) ?_
        refine lv_iload_n hx hb dL_law_779 rfl (lv_at hl 0 rfl) ?_
        refine lv_iconst (v := (1 : Int32)) hx hb dL_law_780 (by decide) ?_
        refine lv_iadd hx hb dL_law_781 ?_
        obtain ⟨v728, h729, hf⟩ := kBind hf
        refine ksld hx hb hX hbl hbA hS h729 dL_law_782 ?_
        refine lv_aload_n hx hb dL_law_783 rfl (lv_at hl 3 rfl) ?_
        refine lv_iload_n hx hb dL_law_784 rfl (lv_at hl 0 rfl) ?_
        refine lv_iconst (v := (2 : Int32)) hx hb dL_law_785 (by decide) ?_
        refine lv_iadd hx hb dL_law_786 ?_
        obtain ⟨v730, h731, hf⟩ := kBind hf
        refine ksld hx hb hX hbl hbA hS h731 dL_law_787 ?_
        refine lv_if_eq (tgt := 795) hx hb dL_law_788 (by decide) (fun c732 => ?_) (fun c732 => ?_)
        · have hf := kIfT c732 hf
          refine lv_iconst (v := (0 : Int32)) hx hb dL_law_795 (by decide) ?_
          obtain ⟨v733, h734, hf⟩ := kBind hf
          refine kgoJ (wr := [(a0, .inr (3, [.ref a1, .ref a3, .ref a5, .ref a7])), (a1, .inr (1, [.ref a2])), (a2, .inl (cI, 132, .inl v726.2.1)), (a3, .inr (1, [.ref a4])), (a4, .inl (cI, 132, .inl R2)), (a5, .inr (0, [.ref a6, .int v726.2.2.2.1, .int v726.2.2.2.2])), (a6, .inl (cI, 660, .inl v726.2.2.1)), (a7, .inr (2, [.ref a8, .int LN, .int PS, .ref a9, .ref a10, .ref a11, .int CM])), (a8, .inl (cI, 80, .inl TB)), (a9, .inl (cI, 20, .inl TC)), (a10, .inl (cI, 20, .inl TW)), (a11, .inl (cI, 20, .inl TG))]) (w2 := (wX3_X4 cI a0 a1 a2 a3 a4 a5 a6 a7 a8 a9 a10 a11 a12 a13 a14 v726.2.1 R2 v726.2.2.1 v726.2.2.2.1 v726.2.2.2.2 TB LN PS TC TW TG CM v733.2.1 v733.2.2 MX ML MA MH)) (krunV (wc := (wX4 cI a12 a13 a14 M SV MX ML MA MH)) (As := [.int v728, .int (bI false)]) (rest := [.int v726.1]) (ci := 4) hx hb hml hown hts hK (kX4_leave l D cI fu a12 a13 a14 M SV MX ML MA MH v728 false v733 h734) gL_law_X4_leave rfl rfl rfl hdX4_leave ⟨Nat.le_of_ble_eq_true rfl, Nat.le_of_ble_eq_true rfl⟩ (hP.sub [12, 13, 14] rfl) (hD.sub [12, 13, 14] (by decide) rfl) rfl rfl rfl rfl hl.1 rfl (Nat.le_of_ble_eq_true rfl) dL_law_796 ⟨Nat.le_of_ble_eq_true rfl, Nat.le_of_ble_eq_true rfl⟩) hP hD hS hA [12, 13, 14] [0, 1, 2, 3, 4, 5, 6, 7, 8, 9, 10, 11] [0, 1, 2, 3, 4, 5, 6, 7, 8, 9, 10, 11, 12, 13, 14] rfl rfl (by decide) (by decide) (by decide) rfl (fun H locs hP hD hS => ?_)
          refine lv_icmp_eq (tgt := 985) hx hb dL_law_799 (by decide) (fun c735 => ?_) (fun c735 => ?_)
          · have hf := kIfT c735 hf
            refine lv_iinc (v := x3 + (5 : Int32)) (lv' := [(3, .int (x3 + (5 : Int32))), (2, .ref a12), (1, .ref a0), (0, .ref b)]) hx hb dL_law_985 hl (k := 0) rfl rfl (by decide) rfl (fun ls hl => ?_)
            refine lv_goto (tgt := 18) hx hb dL_law_988 (by decide) ?_
            obtain ⟨z736, hz736⟩ : ∃ z : Int32, z = x3 + (5 : Int32) := ⟨_, rfl⟩
            rw [← hz736] at hf
            have he := (Option.some.inj hf).symm
            have hl : lv_has ls 4 [(3, .int z736), (2, .ref a12), (1, .ref a0), (0, .ref b)] := by rw [hz736]; exact lv_sub hl [0, 1, 2, 3] rfl
            exact hI1 _ he H locs ls hP hD hS hl
          · have hf := kIfF c735 hf
            refine lv_iconst (v := (0 : Int32)) hx hb dL_law_802 (by decide) ?_
            have he := hO1 _ (Option.some.inj hf).symm
            exact absurd he (by decide)
        · have hf := kIfF c732 hf
          refine lv_iconst (v := (1 : Int32)) hx hb dL_law_791 (by decide) ?_
          refine lv_goto (tgt := 796) hx hb dL_law_792 (by decide) ?_
          obtain ⟨v737, h738, hf⟩ := kBind hf
          refine kgoJ (wr := [(a0, .inr (3, [.ref a1, .ref a3, .ref a5, .ref a7])), (a1, .inr (1, [.ref a2])), (a2, .inl (cI, 132, .inl v726.2.1)), (a3, .inr (1, [.ref a4])), (a4, .inl (cI, 132, .inl R2)), (a5, .inr (0, [.ref a6, .int v726.2.2.2.1, .int v726.2.2.2.2])), (a6, .inl (cI, 660, .inl v726.2.2.1)), (a7, .inr (2, [.ref a8, .int LN, .int PS, .ref a9, .ref a10, .ref a11, .int CM])), (a8, .inl (cI, 80, .inl TB)), (a9, .inl (cI, 20, .inl TC)), (a10, .inl (cI, 20, .inl TW)), (a11, .inl (cI, 20, .inl TG))]) (w2 := (wX3_X4 cI a0 a1 a2 a3 a4 a5 a6 a7 a8 a9 a10 a11 a12 a13 a14 v726.2.1 R2 v726.2.2.1 v726.2.2.2.1 v726.2.2.2.2 TB LN PS TC TW TG CM v737.2.1 v737.2.2 MX ML MA MH)) (krunV (wc := (wX4 cI a12 a13 a14 M SV MX ML MA MH)) (As := [.int v728, .int (bI true)]) (rest := [.int v726.1]) (ci := 4) hx hb hml hown hts hK (kX4_leave l D cI fu a12 a13 a14 M SV MX ML MA MH v728 true v737 h738) gL_law_X4_leave rfl rfl rfl hdX4_leave ⟨Nat.le_of_ble_eq_true rfl, Nat.le_of_ble_eq_true rfl⟩ (hP.sub [12, 13, 14] rfl) (hD.sub [12, 13, 14] (by decide) rfl) rfl rfl rfl rfl hl.1 rfl (Nat.le_of_ble_eq_true rfl) dL_law_796 ⟨Nat.le_of_ble_eq_true rfl, Nat.le_of_ble_eq_true rfl⟩) hP hD hS hA [12, 13, 14] [0, 1, 2, 3, 4, 5, 6, 7, 8, 9, 10, 11] [0, 1, 2, 3, 4, 5, 6, 7, 8, 9, 10, 11, 12, 13, 14] rfl rfl (by decide) (by decide) (by decide) rfl (fun H locs hP hD hS => ?_)
          refine lv_icmp_eq (tgt := 985) hx hb dL_law_799 (by decide) (fun c739 => ?_) (fun c739 => ?_)
          · have hf := kIfT c739 hf
            refine lv_iinc (v := x3 + (5 : Int32)) (lv' := [(3, .int (x3 + (5 : Int32))), (2, .ref a12), (1, .ref a0), (0, .ref b)]) hx hb dL_law_985 hl (k := 0) rfl rfl (by decide) rfl (fun ls hl => ?_)
            refine lv_goto (tgt := 18) hx hb dL_law_988 (by decide) ?_
            obtain ⟨z740, hz740⟩ : ∃ z : Int32, z = x3 + (5 : Int32) := ⟨_, rfl⟩
            rw [← hz740] at hf
            have he := (Option.some.inj hf).symm
            have hl : lv_has ls 4 [(3, .int z740), (2, .ref a12), (1, .ref a0), (0, .ref b)] := by rw [hz740]; exact lv_sub hl [0, 1, 2, 3] rfl
            exact hI1 _ he H locs ls hP hD hS hl
          · have hf := kIfF c739 hf
            refine lv_iconst (v := (0 : Int32)) hx hb dL_law_802 (by decide) ?_
            have he := hO1 _ (Option.some.inj hf).symm
            exact absurd he (by decide)
    have hf := kIfF c705 hf
    by_cases c741 : (v417 &&& (31 : Int32)) = (22 : Int32)
    · have hf := kIfT c741 hf
      unfold fL_law_c22 at hf
      refine lv_tableIn (off := 772) (tgt := 804) hx hb dL_law_32 (by rw [c741]; decide) (by rw [c741]; decide) (by rw [c741]; rfl) (by decide) ?_
      refine lv_aload_n hx hb dL_law_804 rfl (lv_at hl 2 rfl) ?_
      refine lv_aload_n hx hb dL_law_805 rfl (lv_at hl 3 rfl) ?_
      refine lv_iload_n hx hb dL_law_806 rfl (lv_at hl 0 rfl) ?_
      refine lv_iconst (v := (1 : Int32)) hx hb dL_law_807 (by decide) ?_
      refine lv_iadd hx hb dL_law_808 ?_
      obtain ⟨v742, h743, hf⟩ := kBind hf
      refine ksld hx hb hX hbl hbA hS h743 dL_law_809 ?_
      refine lv_aload_n hx hb dL_law_810 rfl (lv_at hl 3 rfl) ?_
      refine lv_iload_n hx hb dL_law_811 rfl (lv_at hl 0 rfl) ?_
      refine lv_iconst (v := (2 : Int32)) hx hb dL_law_812 (by decide) ?_
      refine lv_iadd hx hb dL_law_813 ?_
      obtain ⟨v744, h745, hf⟩ := kBind hf
      refine ksld hx hb hX hbl hbA hS h745 dL_law_814 ?_
      obtain ⟨v746, h747, hf⟩ := kBind hf
      refine kgoJ (wr := [(a12, .inr (4, [.ref a13, .int SV, .ref a14, .int ML, .int MA, .long MH])), (a13, .inl (cI, 896, .inl M)), (a14, .inl (cI, 80, .inl MX))]) (w2 := (wX3_X4 cI a0 a1 a2 a3 a4 a5 a6 a7 a8 a9 a10 a11 a12 a13 a14 v746.2.1 R2 v746.2.2.1 v746.2.2.2.1 v746.2.2.2.2 TB LN PS TC TW TG CM M SV MX ML MA MH)) (krunV (wc := (wX3 cI a0 a1 a2 a3 a4 a5 a6 a7 a8 a9 a10 a11 R R2 HR HS HN TB LN PS TC TW TG CM)) (As := [.int v742, .int v744]) (rest := []) (ci := 3) hx hb hml hown hts hK (kX3_override l D cI fu a0 a1 a2 a3 a4 a5 a6 a7 a8 a9 a10 a11 R R2 HR HS HN TB LN PS TC TW TG CM v742 v744 v746 h747) gL_law_X3_override rfl rfl rfl hdX3_override ⟨Nat.le_of_ble_eq_true rfl, Nat.le_of_ble_eq_true rfl⟩ (hP.sub [0, 1, 2, 3, 4, 5, 6, 7, 8, 9, 10, 11] rfl) (hD.sub [0, 1, 2, 3, 4, 5, 6, 7, 8, 9, 10, 11] (by decide) rfl) rfl rfl rfl rfl hl.1 rfl (Nat.le_of_ble_eq_true rfl) dL_law_815 ⟨Nat.le_of_ble_eq_true rfl, Nat.le_of_ble_eq_true rfl⟩) hP hD hS hA [0, 1, 2, 3, 4, 5, 6, 7, 8, 9, 10, 11] [12, 13, 14] [3, 4, 5, 6, 7, 8, 9, 10, 11, 12, 13, 14, 0, 1, 2] rfl rfl (by decide) (by decide) (by decide) rfl (fun H locs hP hD hS => ?_)
      refine lv_aload_n hx hb dL_law_818 rfl (lv_at hl 1 rfl) ?_
      refine lv_aload_n hx hb dL_law_819 rfl (lv_at hl 3 rfl) ?_
      refine lv_iload_n hx hb dL_law_820 rfl (lv_at hl 0 rfl) ?_
      refine lv_iconst (v := (1 : Int32)) hx hb dL_law_821 (by decide) ?_
      refine lv_iadd hx hb dL_law_822 ?_
      obtain ⟨v748, h749, hf⟩ := kBind hf
      refine ksld hx hb hX hbl hbA hS h749 dL_law_823 ?_
      refine lv_aload_n hx hb dL_law_824 rfl (lv_at hl 3 rfl) ?_
      refine lv_iload_n hx hb dL_law_825 rfl (lv_at hl 0 rfl) ?_
      refine lv_iconst (v := (2 : Int32)) hx hb dL_law_826 (by decide) ?_
      refine lv_iadd hx hb dL_law_827 ?_
      obtain ⟨v750, h751, hf⟩ := kBind hf
      refine ksld hx hb hX hbl hbA hS h751 dL_law_828 ?_
      obtain ⟨v752, h753, hf⟩ := kBind hf
      refine kgoJ (wr := [(a0, .inr (3, [.ref a1, .ref a3, .ref a5, .ref a7])), (a1, .inr (1, [.ref a2])), (a2, .inl (cI, 132, .inl v746.2.1)), (a3, .inr (1, [.ref a4])), (a4, .inl (cI, 132, .inl R2)), (a5, .inr (0, [.ref a6, .int v746.2.2.2.1, .int v746.2.2.2.2])), (a6, .inl (cI, 660, .inl v746.2.2.1)), (a7, .inr (2, [.ref a8, .int LN, .int PS, .ref a9, .ref a10, .ref a11, .int CM])), (a8, .inl (cI, 80, .inl TB)), (a9, .inl (cI, 20, .inl TC)), (a10, .inl (cI, 20, .inl TW)), (a11, .inl (cI, 20, .inl TG))]) (w2 := (wX3_X4 cI a0 a1 a2 a3 a4 a5 a6 a7 a8 a9 a10 a11 a12 a13 a14 v746.2.1 R2 v746.2.2.1 v746.2.2.2.1 v746.2.2.2.2 TB LN PS TC TW TG CM v752.2.1 v752.2.2 MX ML MA MH)) (krunV (wc := (wX4 cI a12 a13 a14 M SV MX ML MA MH)) (As := [.int v748, .int v750]) (rest := [.int v746.1]) (ci := 4) hx hb hml hown hts hK (kX4_override l D cI fu a12 a13 a14 M SV MX ML MA MH v748 v750 v752 h753) gL_law_X4_override rfl rfl rfl hdX4_override ⟨Nat.le_of_ble_eq_true rfl, Nat.le_of_ble_eq_true rfl⟩ (hP.sub [12, 13, 14] rfl) (hD.sub [12, 13, 14] (by decide) rfl) rfl rfl rfl rfl hl.1 rfl (Nat.le_of_ble_eq_true rfl) dL_law_829 ⟨Nat.le_of_ble_eq_true rfl, Nat.le_of_ble_eq_true rfl⟩) hP hD hS hA [12, 13, 14] [0, 1, 2, 3, 4, 5, 6, 7, 8, 9, 10, 11] [0, 1, 2, 3, 4, 5, 6, 7, 8, 9, 10, 11, 12, 13, 14] rfl rfl (by decide) (by decide) (by decide) rfl (fun H locs hP hD hS => ?_)
      refine lv_icmp_eq (tgt := 985) hx hb dL_law_832 (by decide) (fun c754 => ?_) (fun c754 => ?_)
      · have hf := kIfT c754 hf
        refine lv_iinc (v := x3 + (5 : Int32)) (lv' := [(3, .int (x3 + (5 : Int32))), (2, .ref a12), (1, .ref a0), (0, .ref b)]) hx hb dL_law_985 hl (k := 0) rfl rfl (by decide) rfl (fun ls hl => ?_)
        refine lv_goto (tgt := 18) hx hb dL_law_988 (by decide) ?_
        obtain ⟨z755, hz755⟩ : ∃ z : Int32, z = x3 + (5 : Int32) := ⟨_, rfl⟩
        rw [← hz755] at hf
        have he := (Option.some.inj hf).symm
        have hl : lv_has ls 4 [(3, .int z755), (2, .ref a12), (1, .ref a0), (0, .ref b)] := by rw [hz755]; exact lv_sub hl [0, 1, 2, 3] rfl
        exact hI1 _ he H locs ls hP hD hS hl
      · have hf := kIfF c754 hf
        refine lv_iconst (v := (0 : Int32)) hx hb dL_law_835 (by decide) ?_
        have he := hO1 _ (Option.some.inj hf).symm
        exact absurd he (by decide)
    have hf := kIfF c741 hf
    by_cases c756 : (v417 &&& (31 : Int32)) = (23 : Int32)
    · have hf := kIfT c756 hf
      unfold fL_law_c23 at hf
      refine lv_tableIn (off := 805) (tgt := 837) hx hb dL_law_32 (by rw [c756]; decide) (by rw [c756]; decide) (by rw [c756]; rfl) (by decide) ?_
      refine lv_aload_n hx hb dL_law_837 rfl (lv_at hl 2 rfl) ?_
      obtain ⟨v757, h758, hf⟩ := kBind hf
      refine kgoR (krunV (wc := (wX3 cI a0 a1 a2 a3 a4 a5 a6 a7 a8 a9 a10 a11 R R2 HR HS HN TB LN PS TC TW TG CM)) (As := []) (rest := []) (ci := 3) hx hb hml hown hts hK (kX3_notes l D cI a0 a1 a2 a3 a4 a5 a6 a7 a8 a9 a10 a11 R R2 HR HS HN TB LN PS TC TW TG CM v757 h758) gL_law_X3_notes rfl rfl rfl hdX3_notes ⟨Nat.le_of_ble_eq_true rfl, Nat.le_of_ble_eq_true rfl⟩ (hP.sub [0, 1, 2, 3, 4, 5, 6, 7, 8, 9, 10, 11] rfl) (hD.sub [0, 1, 2, 3, 4, 5, 6, 7, 8, 9, 10, 11] (by decide) rfl) rfl rfl rfl rfl hl.1 rfl (Nat.le_of_ble_eq_true rfl) dL_law_838 ⟨Nat.le_of_ble_eq_true rfl, Nat.le_of_ble_eq_true rfl⟩) hP hD hS hA [0, 1, 2, 3, 4, 5, 6, 7, 8, 9, 10, 11] rfl (fun H locs hP hS => ?_)
      refine lv_aload_n hx hb dL_law_841 rfl (lv_at hl 1 rfl) ?_
      obtain ⟨v759, h760, hf⟩ := kBind hf
      refine kgoR (krunV (wc := (wX4 cI a12 a13 a14 M SV MX ML MA MH)) (As := []) (rest := [.int v757]) (ci := 4) hx hb hml hown hts hK (kX4_notes l D cI a12 a13 a14 M SV MX ML MA MH v759 h760) gL_law_X4_notes rfl rfl rfl hdX4_notes ⟨Nat.le_of_ble_eq_true rfl, Nat.le_of_ble_eq_true rfl⟩ (hP.sub [12, 13, 14] rfl) (hD.sub [12, 13, 14] (by decide) rfl) rfl rfl rfl rfl hl.1 rfl (Nat.le_of_ble_eq_true rfl) dL_law_842 ⟨Nat.le_of_ble_eq_true rfl, Nat.le_of_ble_eq_true rfl⟩) hP hD hS hA [12, 13, 14] rfl (fun H locs hP hS => ?_)
      refine lv_icmp_eq (tgt := 985) hx hb dL_law_845 (by decide) (fun c761 => ?_) (fun c761 => ?_)
      · have hf := kIfT c761 hf
        refine lv_iinc (v := x3 + (5 : Int32)) (lv' := [(3, .int (x3 + (5 : Int32))), (2, .ref a12), (1, .ref a0), (0, .ref b)]) hx hb dL_law_985 hl (k := 0) rfl rfl (by decide) rfl (fun ls hl => ?_)
        refine lv_goto (tgt := 18) hx hb dL_law_988 (by decide) ?_
        obtain ⟨z762, hz762⟩ : ∃ z : Int32, z = x3 + (5 : Int32) := ⟨_, rfl⟩
        rw [← hz762] at hf
        have he := (Option.some.inj hf).symm
        have hl : lv_has ls 4 [(3, .int z762), (2, .ref a12), (1, .ref a0), (0, .ref b)] := by rw [hz762]; exact lv_sub hl [0, 1, 2, 3] rfl
        exact hI1 _ he H locs ls hP hD hS hl
      · have hf := kIfF c761 hf
        refine lv_iconst (v := (0 : Int32)) hx hb dL_law_848 (by decide) ?_
        have he := hO1 _ (Option.some.inj hf).symm
        exact absurd he (by decide)
    have hf := kIfF c756 hf
    by_cases c763 : (v417 &&& (31 : Int32)) = (24 : Int32)
    · have hf := kIfT c763 hf
      unfold fL_law_c24 at hf
      refine lv_tableIn (off := 818) (tgt := 850) hx hb dL_law_32 (by rw [c763]; decide) (by rw [c763]; decide) (by rw [c763]; rfl) (by decide) ?_
      refine lv_aload_n hx hb dL_law_850 rfl (lv_at hl 2 rfl) ?_
      refine lv_aload_n hx hb dL_law_851 rfl (lv_at hl 3 rfl) ?_
      refine lv_iload_n hx hb dL_law_852 rfl (lv_at hl 0 rfl) ?_
      refine lv_iconst (v := (1 : Int32)) hx hb dL_law_853 (by decide) ?_
      refine lv_iadd hx hb dL_law_854 ?_
      obtain ⟨v764, h765, hf⟩ := kBind hf
      refine ksld hx hb hX hbl hbA hS h765 dL_law_855 ?_
      refine lv_aload_n hx hb dL_law_856 rfl (lv_at hl 3 rfl) ?_
      refine lv_iload_n hx hb dL_law_857 rfl (lv_at hl 0 rfl) ?_
      refine lv_iconst (v := (2 : Int32)) hx hb dL_law_858 (by decide) ?_
      refine lv_iadd hx hb dL_law_859 ?_
      obtain ⟨v766, h767, hf⟩ := kBind hf
      refine ksld hx hb hX hbl hbA hS h767 dL_law_860 ?_
      obtain ⟨v768, h769, hf⟩ := kBind hf
      refine kgoR (krunV (wc := (wX3 cI a0 a1 a2 a3 a4 a5 a6 a7 a8 a9 a10 a11 R R2 HR HS HN TB LN PS TC TW TG CM)) (As := [.int v764, .int v766]) (rest := []) (ci := 3) hx hb hml hown hts hK (kX3_note l D cI a0 a1 a2 a3 a4 a5 a6 a7 a8 a9 a10 a11 R R2 HR HS HN TB LN PS TC TW TG CM v764 v766 v768 h769) gL_law_X3_note rfl rfl rfl hdX3_note ⟨Nat.le_of_ble_eq_true rfl, Nat.le_of_ble_eq_true rfl⟩ (hP.sub [0, 1, 2, 3, 4, 5, 6, 7, 8, 9, 10, 11] rfl) (hD.sub [0, 1, 2, 3, 4, 5, 6, 7, 8, 9, 10, 11] (by decide) rfl) rfl rfl rfl rfl hl.1 rfl (Nat.le_of_ble_eq_true rfl) dL_law_861 ⟨Nat.le_of_ble_eq_true rfl, Nat.le_of_ble_eq_true rfl⟩) hP hD hS hA [0, 1, 2, 3, 4, 5, 6, 7, 8, 9, 10, 11] rfl (fun H locs hP hS => ?_)
      refine lv_aload_n hx hb dL_law_864 rfl (lv_at hl 1 rfl) ?_
      refine lv_aload_n hx hb dL_law_865 rfl (lv_at hl 3 rfl) ?_
      refine lv_iload_n hx hb dL_law_866 rfl (lv_at hl 0 rfl) ?_
      refine lv_iconst (v := (1 : Int32)) hx hb dL_law_867 (by decide) ?_
      refine lv_iadd hx hb dL_law_868 ?_
      obtain ⟨v770, h771, hf⟩ := kBind hf
      refine ksld hx hb hX hbl hbA hS h771 dL_law_869 ?_
      refine lv_aload_n hx hb dL_law_870 rfl (lv_at hl 3 rfl) ?_
      refine lv_iload_n hx hb dL_law_871 rfl (lv_at hl 0 rfl) ?_
      refine lv_iconst (v := (2 : Int32)) hx hb dL_law_872 (by decide) ?_
      refine lv_iadd hx hb dL_law_873 ?_
      obtain ⟨v772, h773, hf⟩ := kBind hf
      refine ksld hx hb hX hbl hbA hS h773 dL_law_874 ?_
      obtain ⟨v774, h775, hf⟩ := kBind hf
      refine kgoR (krunV (wc := (wX4 cI a12 a13 a14 M SV MX ML MA MH)) (As := [.int v770, .int v772]) (rest := [.int v768]) (ci := 4) hx hb hml hown hts hK (kX4_note l D cI a12 a13 a14 M SV MX ML MA MH v770 v772 v774 h775) gL_law_X4_note rfl rfl rfl hdX4_note ⟨Nat.le_of_ble_eq_true rfl, Nat.le_of_ble_eq_true rfl⟩ (hP.sub [12, 13, 14] rfl) (hD.sub [12, 13, 14] (by decide) rfl) rfl rfl rfl rfl hl.1 rfl (Nat.le_of_ble_eq_true rfl) dL_law_875 ⟨Nat.le_of_ble_eq_true rfl, Nat.le_of_ble_eq_true rfl⟩) hP hD hS hA [12, 13, 14] rfl (fun H locs hP hS => ?_)
      refine lv_icmp_eq (tgt := 985) hx hb dL_law_878 (by decide) (fun c776 => ?_) (fun c776 => ?_)
      · have hf := kIfT c776 hf
        refine lv_iinc (v := x3 + (5 : Int32)) (lv' := [(3, .int (x3 + (5 : Int32))), (2, .ref a12), (1, .ref a0), (0, .ref b)]) hx hb dL_law_985 hl (k := 0) rfl rfl (by decide) rfl (fun ls hl => ?_)
        refine lv_goto (tgt := 18) hx hb dL_law_988 (by decide) ?_
        obtain ⟨z777, hz777⟩ : ∃ z : Int32, z = x3 + (5 : Int32) := ⟨_, rfl⟩
        rw [← hz777] at hf
        have he := (Option.some.inj hf).symm
        have hl : lv_has ls 4 [(3, .int z777), (2, .ref a12), (1, .ref a0), (0, .ref b)] := by rw [hz777]; exact lv_sub hl [0, 1, 2, 3] rfl
        exact hI1 _ he H locs ls hP hD hS hl
      · have hf := kIfF c776 hf
        refine lv_iconst (v := (0 : Int32)) hx hb dL_law_881 (by decide) ?_
        have he := hO1 _ (Option.some.inj hf).symm
        exact absurd he (by decide)
    have hf := kIfF c763 hf
    by_cases c778 : (v417 &&& (31 : Int32)) = (25 : Int32)
    · have hf := kIfT c778 hf
      unfold fL_law_c25 at hf
      refine lv_tableIn (off := 851) (tgt := 883) hx hb dL_law_32 (by rw [c778]; decide) (by rw [c778]; decide) (by rw [c778]; rfl) (by decide) ?_
      refine lv_aload_n hx hb dL_law_883 rfl (lv_at hl 2 rfl) ?_
      obtain ⟨v779, h780, hf⟩ := kBind hf
      refine kgoJ (wr := [(a12, .inr (4, [.ref a13, .int SV, .ref a14, .int ML, .int MA, .long MH])), (a13, .inl (cI, 896, .inl M)), (a14, .inl (cI, 80, .inl MX))]) (w2 := (wX3_X4 cI a0 a1 a2 a3 a4 a5 a6 a7 a8 a9 a10 a11 a12 a13 a14 v779.2.1 R2 v779.2.2.1 v779.2.2.2.1 v779.2.2.2.2 TB LN PS TC TW TG CM M SV MX ML MA MH)) (krunV (wc := (wX3 cI a0 a1 a2 a3 a4 a5 a6 a7 a8 a9 a10 a11 R R2 HR HS HN TB LN PS TC TW TG CM)) (As := []) (rest := []) (ci := 3) hx hb hml hown hts hK (kX3_clearNotes l D cI a0 a1 a2 a3 a4 a5 a6 a7 a8 a9 a10 a11 R R2 HR HS HN TB LN PS TC TW TG CM v779 h780) gL_law_X3_clearNotes rfl rfl rfl hdX3_clearNotes ⟨Nat.le_of_ble_eq_true rfl, Nat.le_of_ble_eq_true rfl⟩ (hP.sub [0, 1, 2, 3, 4, 5, 6, 7, 8, 9, 10, 11] rfl) (hD.sub [0, 1, 2, 3, 4, 5, 6, 7, 8, 9, 10, 11] (by decide) rfl) rfl rfl rfl rfl hl.1 rfl (Nat.le_of_ble_eq_true rfl) dL_law_884 ⟨Nat.le_of_ble_eq_true rfl, Nat.le_of_ble_eq_true rfl⟩) hP hD hS hA [0, 1, 2, 3, 4, 5, 6, 7, 8, 9, 10, 11] [12, 13, 14] [3, 4, 5, 6, 7, 8, 9, 10, 11, 12, 13, 14, 0, 1, 2] rfl rfl (by decide) (by decide) (by decide) rfl (fun H locs hP hD hS => ?_)
      refine lv_aload_n hx hb dL_law_887 rfl (lv_at hl 1 rfl) ?_
      obtain ⟨v781, h782, hf⟩ := kBind hf
      refine kgoJ (wr := [(a0, .inr (3, [.ref a1, .ref a3, .ref a5, .ref a7])), (a1, .inr (1, [.ref a2])), (a2, .inl (cI, 132, .inl v779.2.1)), (a3, .inr (1, [.ref a4])), (a4, .inl (cI, 132, .inl R2)), (a5, .inr (0, [.ref a6, .int v779.2.2.2.1, .int v779.2.2.2.2])), (a6, .inl (cI, 660, .inl v779.2.2.1)), (a7, .inr (2, [.ref a8, .int LN, .int PS, .ref a9, .ref a10, .ref a11, .int CM])), (a8, .inl (cI, 80, .inl TB)), (a9, .inl (cI, 20, .inl TC)), (a10, .inl (cI, 20, .inl TW)), (a11, .inl (cI, 20, .inl TG))]) (w2 := (wX3_X4 cI a0 a1 a2 a3 a4 a5 a6 a7 a8 a9 a10 a11 a12 a13 a14 v779.2.1 R2 v779.2.2.1 v779.2.2.2.1 v779.2.2.2.2 TB LN PS TC TW TG CM v781.2.1 v781.2.2 MX ML MA MH)) (krunV (wc := (wX4 cI a12 a13 a14 M SV MX ML MA MH)) (As := []) (rest := [.int v779.1]) (ci := 4) hx hb hml hown hts hK (kX4_clearNotes l D cI fu a12 a13 a14 M SV MX ML MA MH v781 h782) gL_law_X4_clearNotes rfl rfl rfl hdX4_clearNotes ⟨Nat.le_of_ble_eq_true rfl, Nat.le_of_ble_eq_true rfl⟩ (hP.sub [12, 13, 14] rfl) (hD.sub [12, 13, 14] (by decide) rfl) rfl rfl rfl rfl hl.1 rfl (Nat.le_of_ble_eq_true rfl) dL_law_888 ⟨Nat.le_of_ble_eq_true rfl, Nat.le_of_ble_eq_true rfl⟩) hP hD hS hA [12, 13, 14] [0, 1, 2, 3, 4, 5, 6, 7, 8, 9, 10, 11] [0, 1, 2, 3, 4, 5, 6, 7, 8, 9, 10, 11, 12, 13, 14] rfl rfl (by decide) (by decide) (by decide) rfl (fun H locs hP hD hS => ?_)
      refine lv_icmp_eq (tgt := 985) hx hb dL_law_891 (by decide) (fun c783 => ?_) (fun c783 => ?_)
      · have hf := kIfT c783 hf
        refine lv_iinc (v := x3 + (5 : Int32)) (lv' := [(3, .int (x3 + (5 : Int32))), (2, .ref a12), (1, .ref a0), (0, .ref b)]) hx hb dL_law_985 hl (k := 0) rfl rfl (by decide) rfl (fun ls hl => ?_)
        refine lv_goto (tgt := 18) hx hb dL_law_988 (by decide) ?_
        obtain ⟨z784, hz784⟩ : ∃ z : Int32, z = x3 + (5 : Int32) := ⟨_, rfl⟩
        rw [← hz784] at hf
        have he := (Option.some.inj hf).symm
        have hl : lv_has ls 4 [(3, .int z784), (2, .ref a12), (1, .ref a0), (0, .ref b)] := by rw [hz784]; exact lv_sub hl [0, 1, 2, 3] rfl
        exact hI1 _ he H locs ls hP hD hS hl
      · have hf := kIfF c783 hf
        refine lv_iconst (v := (0 : Int32)) hx hb dL_law_894 (by decide) ?_
        have he := hO1 _ (Option.some.inj hf).symm
        exact absurd he (by decide)
    have hf := kIfF c778 hf
    by_cases c785 : (v417 &&& (31 : Int32)) = (26 : Int32)
    · have hf := kIfT c785 hf
      unfold fL_law_c26 at hf
      refine lv_tableIn (off := 864) (tgt := 896) hx hb dL_law_32 (by rw [c785]; decide) (by rw [c785]; decide) (by rw [c785]; rfl) (by decide) ?_
      refine lv_aload_n hx hb dL_law_896 rfl (lv_at hl 2 rfl) ?_
      obtain ⟨v786, h787, hf⟩ := kBind hf
      refine kgoJ (wr := [(a12, .inr (4, [.ref a13, .int SV, .ref a14, .int ML, .int MA, .long MH])), (a13, .inl (cI, 896, .inl M)), (a14, .inl (cI, 80, .inl MX))]) (w2 := (wX3_X4 cI a0 a1 a2 a3 a4 a5 a6 a7 a8 a9 a10 a11 a12 a13 a14 v786.2.1 R2 HR v786.2.2.1 v786.2.2.2 TB LN PS TC TW TG CM M SV MX ML MA MH)) (krunV (wc := (wX3 cI a0 a1 a2 a3 a4 a5 a6 a7 a8 a9 a10 a11 R R2 HR HS HN TB LN PS TC TW TG CM)) (As := []) (rest := []) (ci := 3) hx hb hml hown hts hK (kX3_undo l D cI a0 a1 a2 a3 a4 a5 a6 a7 a8 a9 a10 a11 R R2 HR HS HN TB LN PS TC TW TG CM v786 h787) gL_law_X3_undo rfl rfl rfl hdX3_undo ⟨Nat.le_of_ble_eq_true rfl, Nat.le_of_ble_eq_true rfl⟩ (hP.sub [0, 1, 2, 3, 4, 5, 6, 7, 8, 9, 10, 11] rfl) (hD.sub [0, 1, 2, 3, 4, 5, 6, 7, 8, 9, 10, 11] (by decide) rfl) rfl rfl rfl rfl hl.1 rfl (Nat.le_of_ble_eq_true rfl) dL_law_897 ⟨Nat.le_of_ble_eq_true rfl, Nat.le_of_ble_eq_true rfl⟩) hP hD hS hA [0, 1, 2, 3, 4, 5, 6, 7, 8, 9, 10, 11] [12, 13, 14] [3, 4, 5, 6, 7, 8, 9, 10, 11, 12, 13, 14, 0, 1, 2] rfl rfl (by decide) (by decide) (by decide) rfl (fun H locs hP hD hS => ?_)
      refine lv_aload_n hx hb dL_law_900 rfl (lv_at hl 1 rfl) ?_
      obtain ⟨v788, h789, hf⟩ := kBind hf
      refine kgoJ (wr := [(a0, .inr (3, [.ref a1, .ref a3, .ref a5, .ref a7])), (a1, .inr (1, [.ref a2])), (a2, .inl (cI, 132, .inl v786.2.1)), (a3, .inr (1, [.ref a4])), (a4, .inl (cI, 132, .inl R2)), (a5, .inr (0, [.ref a6, .int v786.2.2.1, .int v786.2.2.2])), (a6, .inl (cI, 660, .inl HR)), (a7, .inr (2, [.ref a8, .int LN, .int PS, .ref a9, .ref a10, .ref a11, .int CM])), (a8, .inl (cI, 80, .inl TB)), (a9, .inl (cI, 20, .inl TC)), (a10, .inl (cI, 20, .inl TW)), (a11, .inl (cI, 20, .inl TG))]) (w2 := (wX3_X4 cI a0 a1 a2 a3 a4 a5 a6 a7 a8 a9 a10 a11 a12 a13 a14 v786.2.1 R2 HR v786.2.2.1 v786.2.2.2 TB LN PS TC TW TG CM v788.2.1 v788.2.2 MX ML MA MH)) (krunV (wc := (wX4 cI a12 a13 a14 M SV MX ML MA MH)) (As := []) (rest := [.int v786.1]) (ci := 4) hx hb hml hown hts hK (kX4_undo l D cI fu a12 a13 a14 M SV MX ML MA MH v788 h789) gL_law_X4_undo rfl rfl rfl hdX4_undo ⟨Nat.le_of_ble_eq_true rfl, Nat.le_of_ble_eq_true rfl⟩ (hP.sub [12, 13, 14] rfl) (hD.sub [12, 13, 14] (by decide) rfl) rfl rfl rfl rfl hl.1 rfl (Nat.le_of_ble_eq_true rfl) dL_law_901 ⟨Nat.le_of_ble_eq_true rfl, Nat.le_of_ble_eq_true rfl⟩) hP hD hS hA [12, 13, 14] [0, 1, 2, 3, 4, 5, 6, 7, 8, 9, 10, 11] [0, 1, 2, 3, 4, 5, 6, 7, 8, 9, 10, 11, 12, 13, 14] rfl rfl (by decide) (by decide) (by decide) rfl (fun H locs hP hD hS => ?_)
      refine lv_icmp_eq (tgt := 985) hx hb dL_law_904 (by decide) (fun c790 => ?_) (fun c790 => ?_)
      · have hf := kIfT c790 hf
        refine lv_iinc (v := x3 + (5 : Int32)) (lv' := [(3, .int (x3 + (5 : Int32))), (2, .ref a12), (1, .ref a0), (0, .ref b)]) hx hb dL_law_985 hl (k := 0) rfl rfl (by decide) rfl (fun ls hl => ?_)
        refine lv_goto (tgt := 18) hx hb dL_law_988 (by decide) ?_
        obtain ⟨z791, hz791⟩ : ∃ z : Int32, z = x3 + (5 : Int32) := ⟨_, rfl⟩
        rw [← hz791] at hf
        have he := (Option.some.inj hf).symm
        have hl : lv_has ls 4 [(3, .int z791), (2, .ref a12), (1, .ref a0), (0, .ref b)] := by rw [hz791]; exact lv_sub hl [0, 1, 2, 3] rfl
        exact hI1 _ he H locs ls hP hD hS hl
      · have hf := kIfF c790 hf
        refine lv_iconst (v := (0 : Int32)) hx hb dL_law_907 (by decide) ?_
        have he := hO1 _ (Option.some.inj hf).symm
        exact absurd he (by decide)
    have hf := kIfF c785 hf
    by_cases c792 : (v417 &&& (31 : Int32)) = (27 : Int32)
    · have hf := kIfT c792 hf
      unfold fL_law_c27 at hf
      refine lv_tableIn (off := 877) (tgt := 909) hx hb dL_law_32 (by rw [c792]; decide) (by rw [c792]; decide) (by rw [c792]; rfl) (by decide) ?_
      refine lv_aload_n hx hb dL_law_909 rfl (lv_at hl 2 rfl) ?_
      refine lv_aload_n hx hb dL_law_910 rfl (lv_at hl 3 rfl) ?_
      refine lv_iload_n hx hb dL_law_911 rfl (lv_at hl 0 rfl) ?_
      refine lv_iconst (v := (1 : Int32)) hx hb dL_law_912 (by decide) ?_
      refine lv_iadd hx hb dL_law_913 ?_
      obtain ⟨v793, h794, hf⟩ := kBind hf
      refine ksld hx hb hX hbl hbA hS h794 dL_law_914 ?_
      obtain ⟨v795, h796, hf⟩ := kBind hf
      refine kgoJ (wr := [(a12, .inr (4, [.ref a13, .int SV, .ref a14, .int ML, .int MA, .long MH])), (a13, .inl (cI, 896, .inl M)), (a14, .inl (cI, 80, .inl MX))]) (w2 := (wX3_X4 cI a0 a1 a2 a3 a4 a5 a6 a7 a8 a9 a10 a11 a12 a13 a14 R R2 HR HS HN v795.2.1 v795.2.2 PS TC TW TG CM M SV MX ML MA MH)) (krunV (wc := (wX3 cI a0 a1 a2 a3 a4 a5 a6 a7 a8 a9 a10 a11 R R2 HR HS HN TB LN PS TC TW TG CM)) (As := [.int v793]) (rest := []) (ci := 3) hx hb hml hown hts hK (kX3_type l D cI a0 a1 a2 a3 a4 a5 a6 a7 a8 a9 a10 a11 R R2 HR HS HN TB LN PS TC TW TG CM v793 v795 h796) gL_law_X3_type rfl rfl rfl hdX3_type ⟨Nat.le_of_ble_eq_true rfl, Nat.le_of_ble_eq_true rfl⟩ (hP.sub [0, 1, 2, 3, 4, 5, 6, 7, 8, 9, 10, 11] rfl) (hD.sub [0, 1, 2, 3, 4, 5, 6, 7, 8, 9, 10, 11] (by decide) rfl) rfl rfl rfl rfl hl.1 rfl (Nat.le_of_ble_eq_true rfl) dL_law_915 ⟨Nat.le_of_ble_eq_true rfl, Nat.le_of_ble_eq_true rfl⟩) hP hD hS hA [0, 1, 2, 3, 4, 5, 6, 7, 8, 9, 10, 11] [12, 13, 14] [3, 4, 5, 6, 7, 8, 9, 10, 11, 12, 13, 14, 0, 1, 2] rfl rfl (by decide) (by decide) (by decide) rfl (fun H locs hP hD hS => ?_)
      refine lv_aload_n hx hb dL_law_918 rfl (lv_at hl 1 rfl) ?_
      refine lv_aload_n hx hb dL_law_919 rfl (lv_at hl 3 rfl) ?_
      refine lv_iload_n hx hb dL_law_920 rfl (lv_at hl 0 rfl) ?_
      refine lv_iconst (v := (1 : Int32)) hx hb dL_law_921 (by decide) ?_
      refine lv_iadd hx hb dL_law_922 ?_
      obtain ⟨v797, h798, hf⟩ := kBind hf
      refine ksld hx hb hX hbl hbA hS h798 dL_law_923 ?_
      obtain ⟨v799, h800, hf⟩ := kBind hf
      refine kgoJ (wr := [(a0, .inr (3, [.ref a1, .ref a3, .ref a5, .ref a7])), (a1, .inr (1, [.ref a2])), (a2, .inl (cI, 132, .inl R)), (a3, .inr (1, [.ref a4])), (a4, .inl (cI, 132, .inl R2)), (a5, .inr (0, [.ref a6, .int HS, .int HN])), (a6, .inl (cI, 660, .inl HR)), (a7, .inr (2, [.ref a8, .int v795.2.2, .int PS, .ref a9, .ref a10, .ref a11, .int CM])), (a8, .inl (cI, 80, .inl v795.2.1)), (a9, .inl (cI, 20, .inl TC)), (a10, .inl (cI, 20, .inl TW)), (a11, .inl (cI, 20, .inl TG))]) (w2 := (wX3_X4 cI a0 a1 a2 a3 a4 a5 a6 a7 a8 a9 a10 a11 a12 a13 a14 R R2 HR HS HN v795.2.1 v795.2.2 PS TC TW TG CM M SV v799.2.1 v799.2.2 MA MH)) (krunV (wc := (wX4 cI a12 a13 a14 M SV MX ML MA MH)) (As := [.int v797]) (rest := [.int v795.1]) (ci := 4) hx hb hml hown hts hK (kX4_type l D cI a12 a13 a14 M SV MX ML MA MH v797 v799 h800) gL_law_X4_type rfl rfl rfl hdX4_type ⟨Nat.le_of_ble_eq_true rfl, Nat.le_of_ble_eq_true rfl⟩ (hP.sub [12, 13, 14] rfl) (hD.sub [12, 13, 14] (by decide) rfl) rfl rfl rfl rfl hl.1 rfl (Nat.le_of_ble_eq_true rfl) dL_law_924 ⟨Nat.le_of_ble_eq_true rfl, Nat.le_of_ble_eq_true rfl⟩) hP hD hS hA [12, 13, 14] [0, 1, 2, 3, 4, 5, 6, 7, 8, 9, 10, 11] [0, 1, 2, 3, 4, 5, 6, 7, 8, 9, 10, 11, 12, 13, 14] rfl rfl (by decide) (by decide) (by decide) rfl (fun H locs hP hD hS => ?_)
      refine lv_icmp_eq (tgt := 985) hx hb dL_law_927 (by decide) (fun c801 => ?_) (fun c801 => ?_)
      · have hf := kIfT c801 hf
        refine lv_iinc (v := x3 + (5 : Int32)) (lv' := [(3, .int (x3 + (5 : Int32))), (2, .ref a12), (1, .ref a0), (0, .ref b)]) hx hb dL_law_985 hl (k := 0) rfl rfl (by decide) rfl (fun ls hl => ?_)
        refine lv_goto (tgt := 18) hx hb dL_law_988 (by decide) ?_
        obtain ⟨z802, hz802⟩ : ∃ z : Int32, z = x3 + (5 : Int32) := ⟨_, rfl⟩
        rw [← hz802] at hf
        have he := (Option.some.inj hf).symm
        have hl : lv_has ls 4 [(3, .int z802), (2, .ref a12), (1, .ref a0), (0, .ref b)] := by rw [hz802]; exact lv_sub hl [0, 1, 2, 3] rfl
        exact hI1 _ he H locs ls hP hD hS hl
      · have hf := kIfF c801 hf
        refine lv_iconst (v := (0 : Int32)) hx hb dL_law_930 (by decide) ?_
        have he := hO1 _ (Option.some.inj hf).symm
        exact absurd he (by decide)
    have hf := kIfF c792 hf
    by_cases c803 : (v417 &&& (31 : Int32)) = (28 : Int32)
    · have hf := kIfT c803 hf
      unfold fL_law_c28 at hf
      refine lv_tableIn (off := 900) (tgt := 932) hx hb dL_law_32 (by rw [c803]; decide) (by rw [c803]; decide) (by rw [c803]; rfl) (by decide) ?_
      refine lv_aload_n hx hb dL_law_932 rfl (lv_at hl 2 rfl) ?_
      obtain ⟨v804, h805, hf⟩ := kBind hf
      refine kgoJ (wr := [(a12, .inr (4, [.ref a13, .int SV, .ref a14, .int ML, .int MA, .long MH])), (a13, .inl (cI, 896, .inl M)), (a14, .inl (cI, 80, .inl MX))]) (w2 := (wX3_X4 cI a0 a1 a2 a3 a4 a5 a6 a7 a8 a9 a10 a11 a12 a13 a14 R R2 HR HS HN TB v804.2 PS TC TW TG CM M SV MX ML MA MH)) (krunV (wc := (wX3 cI a0 a1 a2 a3 a4 a5 a6 a7 a8 a9 a10 a11 R R2 HR HS HN TB LN PS TC TW TG CM)) (As := []) (rest := []) (ci := 3) hx hb hml hown hts hK (kX3_clearText l D cI a0 a1 a2 a3 a4 a5 a6 a7 a8 a9 a10 a11 R R2 HR HS HN TB LN PS TC TW TG CM v804 h805) gL_law_X3_clearText rfl rfl rfl hdX3_clearText ⟨Nat.le_of_ble_eq_true rfl, Nat.le_of_ble_eq_true rfl⟩ (hP.sub [0, 1, 2, 3, 4, 5, 6, 7, 8, 9, 10, 11] rfl) (hD.sub [0, 1, 2, 3, 4, 5, 6, 7, 8, 9, 10, 11] (by decide) rfl) rfl rfl rfl rfl hl.1 rfl (Nat.le_of_ble_eq_true rfl) dL_law_933 ⟨Nat.le_of_ble_eq_true rfl, Nat.le_of_ble_eq_true rfl⟩) hP hD hS hA [0, 1, 2, 3, 4, 5, 6, 7, 8, 9, 10, 11] [12, 13, 14] [3, 4, 5, 6, 7, 8, 9, 10, 11, 12, 13, 14, 0, 1, 2] rfl rfl (by decide) (by decide) (by decide) rfl (fun H locs hP hD hS => ?_)
      refine lv_aload_n hx hb dL_law_936 rfl (lv_at hl 1 rfl) ?_
      obtain ⟨v806, h807, hf⟩ := kBind hf
      refine kgoJ (wr := [(a0, .inr (3, [.ref a1, .ref a3, .ref a5, .ref a7])), (a1, .inr (1, [.ref a2])), (a2, .inl (cI, 132, .inl R)), (a3, .inr (1, [.ref a4])), (a4, .inl (cI, 132, .inl R2)), (a5, .inr (0, [.ref a6, .int HS, .int HN])), (a6, .inl (cI, 660, .inl HR)), (a7, .inr (2, [.ref a8, .int v804.2, .int PS, .ref a9, .ref a10, .ref a11, .int CM])), (a8, .inl (cI, 80, .inl TB)), (a9, .inl (cI, 20, .inl TC)), (a10, .inl (cI, 20, .inl TW)), (a11, .inl (cI, 20, .inl TG))]) (w2 := (wX3_X4 cI a0 a1 a2 a3 a4 a5 a6 a7 a8 a9 a10 a11 a12 a13 a14 R R2 HR HS HN TB v804.2 PS TC TW TG CM M SV MX v806.2 MA MH)) (krunV (wc := (wX4 cI a12 a13 a14 M SV MX ML MA MH)) (As := []) (rest := [.int v804.1]) (ci := 4) hx hb hml hown hts hK (kX4_clearText l D cI a12 a13 a14 M SV MX ML MA MH v806 h807) gL_law_X4_clearText rfl rfl rfl hdX4_clearText ⟨Nat.le_of_ble_eq_true rfl, Nat.le_of_ble_eq_true rfl⟩ (hP.sub [12, 13, 14] rfl) (hD.sub [12, 13, 14] (by decide) rfl) rfl rfl rfl rfl hl.1 rfl (Nat.le_of_ble_eq_true rfl) dL_law_937 ⟨Nat.le_of_ble_eq_true rfl, Nat.le_of_ble_eq_true rfl⟩) hP hD hS hA [12, 13, 14] [0, 1, 2, 3, 4, 5, 6, 7, 8, 9, 10, 11] [0, 1, 2, 3, 4, 5, 6, 7, 8, 9, 10, 11, 12, 13, 14] rfl rfl (by decide) (by decide) (by decide) rfl (fun H locs hP hD hS => ?_)
      refine lv_icmp_eq (tgt := 985) hx hb dL_law_940 (by decide) (fun c808 => ?_) (fun c808 => ?_)
      · have hf := kIfT c808 hf
        refine lv_iinc (v := x3 + (5 : Int32)) (lv' := [(3, .int (x3 + (5 : Int32))), (2, .ref a12), (1, .ref a0), (0, .ref b)]) hx hb dL_law_985 hl (k := 0) rfl rfl (by decide) rfl (fun ls hl => ?_)
        refine lv_goto (tgt := 18) hx hb dL_law_988 (by decide) ?_
        obtain ⟨z809, hz809⟩ : ∃ z : Int32, z = x3 + (5 : Int32) := ⟨_, rfl⟩
        rw [← hz809] at hf
        have he := (Option.some.inj hf).symm
        have hl : lv_has ls 4 [(3, .int z809), (2, .ref a12), (1, .ref a0), (0, .ref b)] := by rw [hz809]; exact lv_sub hl [0, 1, 2, 3] rfl
        exact hI1 _ he H locs ls hP hD hS hl
      · have hf := kIfF c808 hf
        refine lv_iconst (v := (0 : Int32)) hx hb dL_law_943 (by decide) ?_
        have he := hO1 _ (Option.some.inj hf).symm
        exact absurd he (by decide)
    have hf := kIfF c803 hf
    by_cases c810 : (v417 &&& (31 : Int32)) = (29 : Int32)
    · have hf := kIfT c810 hf
      unfold fL_law_c29 at hf
      refine lv_tableIn (off := 913) (tgt := 945) hx hb dL_law_32 (by rw [c810]; decide) (by rw [c810]; decide) (by rw [c810]; rfl) (by decide) ?_
      refine lv_aload_n hx hb dL_law_945 rfl (lv_at hl 2 rfl) ?_
      obtain ⟨v811, h812, hf⟩ := kBind hf
      refine kgoJ (wr := [(a12, .inr (4, [.ref a13, .int SV, .ref a14, .int ML, .int MA, .long MH])), (a13, .inl (cI, 896, .inl M)), (a14, .inl (cI, 80, .inl MX))]) (w2 := (wX3_X4 cI a0 a1 a2 a3 a4 a5 a6 a7 a8 a9 a10 a11 a12 a13 a14 R R2 HR HS HN TB LN v811.2.1 v811.2.2.1 v811.2.2.2.1 v811.2.2.2.2.1 v811.2.2.2.2.2 M SV MX ML MA MH)) (krunV (wc := (wX3 cI a0 a1 a2 a3 a4 a5 a6 a7 a8 a9 a10 a11 R R2 HR HS HN TB LN PS TC TW TG CM)) (As := []) (rest := []) (ci := 3) hx hb hml hown hts hK (kX3_textFault l D cI fu a0 a1 a2 a3 a4 a5 a6 a7 a8 a9 a10 a11 R R2 HR HS HN TB LN PS TC TW TG CM v811 h812) gL_law_X3_textFault rfl rfl rfl hdX3_textFault ⟨Nat.le_of_ble_eq_true rfl, Nat.le_of_ble_eq_true rfl⟩ (hP.sub [0, 1, 2, 3, 4, 5, 6, 7, 8, 9, 10, 11] rfl) (hD.sub [0, 1, 2, 3, 4, 5, 6, 7, 8, 9, 10, 11] (by decide) rfl) rfl rfl rfl rfl hl.1 rfl (Nat.le_of_ble_eq_true rfl) dL_law_946 ⟨Nat.le_of_ble_eq_true rfl, Nat.le_of_ble_eq_true rfl⟩) hP hD hS hA [0, 1, 2, 3, 4, 5, 6, 7, 8, 9, 10, 11] [12, 13, 14] [3, 4, 5, 6, 7, 8, 9, 10, 11, 12, 13, 14, 0, 1, 2] rfl rfl (by decide) (by decide) (by decide) rfl (fun H locs hP hD hS => ?_)
      refine lv_aload_n hx hb dL_law_949 rfl (lv_at hl 1 rfl) ?_
      obtain ⟨v813, h814, hf⟩ := kBind hf
      refine kgoJ (wr := [(a0, .inr (3, [.ref a1, .ref a3, .ref a5, .ref a7])), (a1, .inr (1, [.ref a2])), (a2, .inl (cI, 132, .inl R)), (a3, .inr (1, [.ref a4])), (a4, .inl (cI, 132, .inl R2)), (a5, .inr (0, [.ref a6, .int HS, .int HN])), (a6, .inl (cI, 660, .inl HR)), (a7, .inr (2, [.ref a8, .int LN, .int v811.2.1, .ref a9, .ref a10, .ref a11, .int v811.2.2.2.2.2])), (a8, .inl (cI, 80, .inl TB)), (a9, .inl (cI, 20, .inl v811.2.2.1)), (a10, .inl (cI, 20, .inl v811.2.2.2.1)), (a11, .inl (cI, 20, .inl v811.2.2.2.2.1))]) (w2 := (wX3_X4 cI a0 a1 a2 a3 a4 a5 a6 a7 a8 a9 a10 a11 a12 a13 a14 R R2 HR HS HN TB LN v811.2.1 v811.2.2.1 v811.2.2.2.1 v811.2.2.2.2.1 v811.2.2.2.2.2 v813.2.1 SV MX ML v813.2.2 MH)) (krunV (wc := (wX4 cI a12 a13 a14 M SV MX ML MA MH)) (As := []) (rest := [.int v811.1]) (ci := 4) hx hb hml hown hts hK (kX4_textFault l D cI fu a12 a13 a14 M SV MX ML MA MH v813 h814) gL_law_X4_textFault rfl rfl rfl hdX4_textFault ⟨Nat.le_of_ble_eq_true rfl, Nat.le_of_ble_eq_true rfl⟩ (hP.sub [12, 13, 14] rfl) (hD.sub [12, 13, 14] (by decide) rfl) rfl rfl rfl rfl hl.1 rfl (Nat.le_of_ble_eq_true rfl) dL_law_950 ⟨Nat.le_of_ble_eq_true rfl, Nat.le_of_ble_eq_true rfl⟩) hP hD hS hA [12, 13, 14] [0, 1, 2, 3, 4, 5, 6, 7, 8, 9, 10, 11] [0, 1, 2, 3, 4, 5, 6, 7, 8, 9, 10, 11, 12, 13, 14] rfl rfl (by decide) (by decide) (by decide) rfl (fun H locs hP hD hS => ?_)
      refine lv_icmp_eq (tgt := 985) hx hb dL_law_953 (by decide) (fun c815 => ?_) (fun c815 => ?_)
      · have hf := kIfT c815 hf
        refine lv_iinc (v := x3 + (5 : Int32)) (lv' := [(3, .int (x3 + (5 : Int32))), (2, .ref a12), (1, .ref a0), (0, .ref b)]) hx hb dL_law_985 hl (k := 0) rfl rfl (by decide) rfl (fun ls hl => ?_)
        refine lv_goto (tgt := 18) hx hb dL_law_988 (by decide) ?_
        obtain ⟨z816, hz816⟩ : ∃ z : Int32, z = x3 + (5 : Int32) := ⟨_, rfl⟩
        rw [← hz816] at hf
        have he := (Option.some.inj hf).symm
        have hl : lv_has ls 4 [(3, .int z816), (2, .ref a12), (1, .ref a0), (0, .ref b)] := by rw [hz816]; exact lv_sub hl [0, 1, 2, 3] rfl
        exact hI1 _ he H locs ls hP hD hS hl
      · have hf := kIfF c815 hf
        refine lv_iconst (v := (0 : Int32)) hx hb dL_law_956 (by decide) ?_
        have he := hO1 _ (Option.some.inj hf).symm
        exact absurd he (by decide)
    have hf := kIfF c810 hf
    by_cases c817 : (v417 &&& (31 : Int32)) = (30 : Int32)
    · have hf := kIfT c817 hf
      unfold fL_law_c30 at hf
      refine lv_tableIn (off := 926) (tgt := 958) hx hb dL_law_32 (by rw [c817]; decide) (by rw [c817]; decide) (by rw [c817]; rfl) (by decide) ?_
      refine lv_aload_n hx hb dL_law_958 rfl (lv_at hl 2 rfl) ?_
      obtain ⟨v818, h819, hf⟩ := kBind hf
      refine kgoJ (wr := [(a12, .inr (4, [.ref a13, .int SV, .ref a14, .int ML, .int MA, .long MH])), (a13, .inl (cI, 896, .inl M)), (a14, .inl (cI, 80, .inl MX))]) (w2 := (wX3_X4 cI a0 a1 a2 a3 a4 a5 a6 a7 a8 a9 a10 a11 a12 a13 a14 v818.2.1 R2 v818.2.2.1 v818.2.2.2.1 v818.2.2.2.2.1 TB LN v818.2.2.2.2.2.1 v818.2.2.2.2.2.2.1 v818.2.2.2.2.2.2.2.1 v818.2.2.2.2.2.2.2.2.1 v818.2.2.2.2.2.2.2.2.2 M SV MX ML MA MH)) (krunV (wc := (wX3 cI a0 a1 a2 a3 a4 a5 a6 a7 a8 a9 a10 a11 R R2 HR HS HN TB LN PS TC TW TG CM)) (As := []) (rest := []) (ci := 3) hx hb hml hown hts hK (kX3_command l D cI fu a0 a1 a2 a3 a4 a5 a6 a7 a8 a9 a10 a11 R R2 HR HS HN TB LN PS TC TW TG CM v818 h819) gL_law_X3_command rfl rfl rfl hdX3_command ⟨Nat.le_of_ble_eq_true rfl, Nat.le_of_ble_eq_true rfl⟩ (hP.sub [0, 1, 2, 3, 4, 5, 6, 7, 8, 9, 10, 11] rfl) (hD.sub [0, 1, 2, 3, 4, 5, 6, 7, 8, 9, 10, 11] (by decide) rfl) rfl rfl rfl rfl hl.1 rfl (Nat.le_of_ble_eq_true rfl) dL_law_959 ⟨Nat.le_of_ble_eq_true rfl, Nat.le_of_ble_eq_true rfl⟩) hP hD hS hA [0, 1, 2, 3, 4, 5, 6, 7, 8, 9, 10, 11] [12, 13, 14] [3, 4, 5, 6, 7, 8, 9, 10, 11, 12, 13, 14, 0, 1, 2] rfl rfl (by decide) (by decide) (by decide) rfl (fun H locs hP hD hS => ?_)
      refine lv_aload_n hx hb dL_law_962 rfl (lv_at hl 1 rfl) ?_
      obtain ⟨v820, h821, hf⟩ := kBind hf
      refine kgoJ (wr := [(a0, .inr (3, [.ref a1, .ref a3, .ref a5, .ref a7])), (a1, .inr (1, [.ref a2])), (a2, .inl (cI, 132, .inl v818.2.1)), (a3, .inr (1, [.ref a4])), (a4, .inl (cI, 132, .inl R2)), (a5, .inr (0, [.ref a6, .int v818.2.2.2.1, .int v818.2.2.2.2.1])), (a6, .inl (cI, 660, .inl v818.2.2.1)), (a7, .inr (2, [.ref a8, .int LN, .int v818.2.2.2.2.2.1, .ref a9, .ref a10, .ref a11, .int v818.2.2.2.2.2.2.2.2.2])), (a8, .inl (cI, 80, .inl TB)), (a9, .inl (cI, 20, .inl v818.2.2.2.2.2.2.1)), (a10, .inl (cI, 20, .inl v818.2.2.2.2.2.2.2.1)), (a11, .inl (cI, 20, .inl v818.2.2.2.2.2.2.2.2.1))]) (w2 := (wX3_X4 cI a0 a1 a2 a3 a4 a5 a6 a7 a8 a9 a10 a11 a12 a13 a14 v818.2.1 R2 v818.2.2.1 v818.2.2.2.1 v818.2.2.2.2.1 TB LN v818.2.2.2.2.2.1 v818.2.2.2.2.2.2.1 v818.2.2.2.2.2.2.2.1 v818.2.2.2.2.2.2.2.2.1 v818.2.2.2.2.2.2.2.2.2 v820.2.1 v820.2.2.1 MX ML v820.2.2.2 MH)) (krunV (wc := (wX4 cI a12 a13 a14 M SV MX ML MA MH)) (As := []) (rest := [.int v818.1]) (ci := 4) hx hb hml hown hts hK (kX4_command l D cI fu a12 a13 a14 M SV MX ML MA MH v820 h821) gL_law_X4_command rfl rfl rfl hdX4_command ⟨Nat.le_of_ble_eq_true rfl, Nat.le_of_ble_eq_true rfl⟩ (hP.sub [12, 13, 14] rfl) (hD.sub [12, 13, 14] (by decide) rfl) rfl rfl rfl rfl hl.1 rfl (Nat.le_of_ble_eq_true rfl) dL_law_963 ⟨Nat.le_of_ble_eq_true rfl, Nat.le_of_ble_eq_true rfl⟩) hP hD hS hA [12, 13, 14] [0, 1, 2, 3, 4, 5, 6, 7, 8, 9, 10, 11] [0, 1, 2, 3, 4, 5, 6, 7, 8, 9, 10, 11, 12, 13, 14] rfl rfl (by decide) (by decide) (by decide) rfl (fun H locs hP hD hS => ?_)
      refine lv_icmp_eq (tgt := 985) hx hb dL_law_966 (by decide) (fun c822 => ?_) (fun c822 => ?_)
      · have hf := kIfT c822 hf
        refine lv_iinc (v := x3 + (5 : Int32)) (lv' := [(3, .int (x3 + (5 : Int32))), (2, .ref a12), (1, .ref a0), (0, .ref b)]) hx hb dL_law_985 hl (k := 0) rfl rfl (by decide) rfl (fun ls hl => ?_)
        refine lv_goto (tgt := 18) hx hb dL_law_988 (by decide) ?_
        obtain ⟨z823, hz823⟩ : ∃ z : Int32, z = x3 + (5 : Int32) := ⟨_, rfl⟩
        rw [← hz823] at hf
        have he := (Option.some.inj hf).symm
        have hl : lv_has ls 4 [(3, .int z823), (2, .ref a12), (1, .ref a0), (0, .ref b)] := by rw [hz823]; exact lv_sub hl [0, 1, 2, 3] rfl
        exact hI1 _ he H locs ls hP hD hS hl
      · have hf := kIfF c822 hf
        refine lv_iconst (v := (0 : Int32)) hx hb dL_law_969 (by decide) ?_
        have he := hO1 _ (Option.some.inj hf).symm
        exact absurd he (by decide)
    have hf := kIfF c817 hf
    by_cases c824 : (v417 &&& (31 : Int32)) = (31 : Int32)
    · have hf := kIfT c824 hf
      unfold fL_law_c31 at hf
      refine lv_tableIn (off := 939) (tgt := 971) hx hb dL_law_32 (by rw [c824]; decide) (by rw [c824]; decide) (by rw [c824]; rfl) (by decide) ?_
      refine lv_aload_n hx hb dL_law_971 rfl (lv_at hl 2 rfl) ?_
      obtain ⟨v825, h826, hf⟩ := kBind hf
      refine kgoR (krunV (wc := (wX3 cI a0 a1 a2 a3 a4 a5 a6 a7 a8 a9 a10 a11 R R2 HR HS HN TB LN PS TC TW TG CM)) (As := []) (rest := []) (ci := 3) hx hb hml hown hts hK (kX3_digest l D cI fu a0 a1 a2 a3 a4 a5 a6 a7 a8 a9 a10 a11 R R2 HR HS HN TB LN PS TC TW TG CM v825 h826) gL_law_X3_digest rfl rfl rfl hdX3_digest ⟨Nat.le_of_ble_eq_true rfl, Nat.le_of_ble_eq_true rfl⟩ (hP.sub [0, 1, 2, 3, 4, 5, 6, 7, 8, 9, 10, 11] rfl) (hD.sub [0, 1, 2, 3, 4, 5, 6, 7, 8, 9, 10, 11] (by decide) rfl) rfl rfl rfl rfl hl.1 rfl (Nat.le_of_ble_eq_true rfl) dL_law_972 ⟨Nat.le_of_ble_eq_true rfl, Nat.le_of_ble_eq_true rfl⟩) hP hD hS hA [0, 1, 2, 3, 4, 5, 6, 7, 8, 9, 10, 11] rfl (fun H locs hP hS => ?_)
      refine lv_aload_n hx hb dL_law_975 rfl (lv_at hl 1 rfl) ?_
      obtain ⟨v827, h828, hf⟩ := kBind hf
      refine kgoJ (wr := [(a0, .inr (3, [.ref a1, .ref a3, .ref a5, .ref a7])), (a1, .inr (1, [.ref a2])), (a2, .inl (cI, 132, .inl R)), (a3, .inr (1, [.ref a4])), (a4, .inl (cI, 132, .inl R2)), (a5, .inr (0, [.ref a6, .int HS, .int HN])), (a6, .inl (cI, 660, .inl HR)), (a7, .inr (2, [.ref a8, .int LN, .int PS, .ref a9, .ref a10, .ref a11, .int CM])), (a8, .inl (cI, 80, .inl TB)), (a9, .inl (cI, 20, .inl TC)), (a10, .inl (cI, 20, .inl TW)), (a11, .inl (cI, 20, .inl TG))]) (w2 := (wX3_X4 cI a0 a1 a2 a3 a4 a5 a6 a7 a8 a9 a10 a11 a12 a13 a14 R R2 HR HS HN TB LN PS TC TW TG CM M SV MX ML MA v827.2)) (krunV (wc := (wX4 cI a12 a13 a14 M SV MX ML MA MH)) (As := []) (rest := [.long v825]) (ci := 4) hx hb hml hown hts hK (kX4_digest l D cI fu a12 a13 a14 M SV MX ML MA MH v827 h828) gL_law_X4_digest rfl rfl rfl hdX4_digest ⟨Nat.le_of_ble_eq_true rfl, Nat.le_of_ble_eq_true rfl⟩ (hP.sub [12, 13, 14] rfl) (hD.sub [12, 13, 14] (by decide) rfl) rfl rfl rfl rfl hl.1 rfl (Nat.le_of_ble_eq_true rfl) dL_law_976 ⟨Nat.le_of_ble_eq_true rfl, Nat.le_of_ble_eq_true rfl⟩) hP hD hS hA [12, 13, 14] [0, 1, 2, 3, 4, 5, 6, 7, 8, 9, 10, 11] [0, 1, 2, 3, 4, 5, 6, 7, 8, 9, 10, 11, 12, 13, 14] rfl rfl (by decide) (by decide) (by decide) rfl (fun H locs hP hD hS => ?_)
      refine W.lcmp hx hb dL_law_979 ?_
      refine lv_if_eq (tgt := 985) hx hb dL_law_980 (by decide) (fun c829 => ?_) (fun c829 => ?_)
      · have hf := kIfT c829 hf
        refine lv_iinc (v := x3 + (5 : Int32)) (lv' := [(3, .int (x3 + (5 : Int32))), (2, .ref a12), (1, .ref a0), (0, .ref b)]) hx hb dL_law_985 hl (k := 0) rfl rfl (by decide) rfl (fun ls hl => ?_)
        refine lv_goto (tgt := 18) hx hb dL_law_988 (by decide) ?_
        obtain ⟨z830, hz830⟩ : ∃ z : Int32, z = x3 + (5 : Int32) := ⟨_, rfl⟩
        rw [← hz830] at hf
        have he := (Option.some.inj hf).symm
        have hl : lv_has ls 4 [(3, .int z830), (2, .ref a12), (1, .ref a0), (0, .ref b)] := by rw [hz830]; exact lv_sub hl [0, 1, 2, 3] rfl
        exact hI1 _ he H locs ls hP hD hS hl
      · have hf := kIfF c829 hf
        refine lv_iconst (v := (0 : Int32)) hx hb dL_law_983 (by decide) ?_
        have he := hO1 _ (Option.some.inj hf).symm
        exact absurd he (by decide)
    have hf := kIfF c824 hf
    cases hf
