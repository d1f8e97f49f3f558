/-! states that differ in the time and the waits alone; a tick in which nothing moves -/
def EQd (M M' : Nat → Int32) (n : Nat) (d : Nat → Int32) : Prop := M' 1 = M 1 ∧ (∀ c, c < n → ∀ k, k < 21 → k ≠ 6 → F M' c k = F M c k) ∧ ∀ c, c < n → F M' c 6 = F M c 6 + d c
theorem F_nkk {M : Nat → Int32} {c c' k k' : Nat} {v : Int32} (h : k' ≠ k) (hk : k < 21) (hk' : k' < 21) : F (setF M c k v) c' k' = F M c' k' := by
  unfold F setF upd
  rw [if_neg (by omega)]
section EQ
variable {M M' : Nat → Int32} {n : Nat} {d : Nat → Int32}
theorem EQd_cont (h : EQd M M' n d) {c z : Nat} (hc : c < n) (hz : z < 6) (a : Int32) : cont M' c z a = cont M c z a := by
  unfold cont
  rw [h.2.1 c hc (9 + 2 * z) (by omega) (by omega), h.2.1 c hc (9 + 2 * z + 1) (by omega) (by omega)]
theorem EQd_hasA (h : EQd M M' n d) {c z : Nat} (hc : c < n) (hz : z < 6) : hasA M' c z = hasA M c z := by
  unfold hasA
  rw [h.2.1 c hc (9 + 2 * z) (by omega) (by omega)]
theorem EQd_nxt (h : EQd M M' n d) {c : Nat} (hc : c < n) : nxt M' c = nxt M c := by
  unfold nxt
  rw [h.2.1 c hc 0 (by decide) (by decide), h.2.1 c hc 4 (by decide) (by decide)]
theorem EQd_ons (h : EQd M M' n d) {c : Nat} (hc : c < n) : ons M' c = ons M c := by
  unfold ons
  rw [h.2.1 c hc 5 (by decide) (by decide)]
theorem EQd_hasT (h : EQd M M' n d) {c : Nat} (hc : c < n) : hasT M' c = hasT M c := by
  unfold hasT
  rw [h.2.1 c hc 3 (by decide) (by decide)]
theorem EQd_lft (h : EQd M M' n d) {c : Nat} (hc : c < n) : lft M' c = lft M c := by
  unfold lft
  rw [h.2.1 c hc 7 (by decide) (by decide)]
theorem EQd_occ (h : EQd M M' n d) {c z : Nat} (hc : c < n) (hz : z < 6) : occ M' c z = occ M c z := by
  unfold occ
  rw [h.2.1 c hc 0 (by decide) (by decide), EQd_cont h hc hz, EQd_cont h hc hz, EQd_ons h hc, EQd_nxt h hc, EQd_lft h hc, EQd_hasA h hc hz]
theorem EQd_iwP (h : EQd M M' n d) {c o : Nat} (hc : c < n) (ho : o < n) : iwP M' c o = iwP M c o := by
  have e : ∀ z, z < 6 → ((decide (o ≠ c) && cont M' c z (nxt M' c)) && occ M' o z) = ((decide (o ≠ c) && cont M c z (nxt M c)) && occ M o z) := fun z hz => by
    rw [EQd_nxt h hc, EQd_cont h hc hz, EQd_occ h ho hz]
  unfold iwP
  simp only [anyN, e 0 (by decide), e 1 (by decide), e 2 (by decide), e 3 (by decide), e 4 (by decide), e 5 (by decide)]
theorem lowf_congr {P Q : Nat → Bool} : ∀ {m : Nat} {x : Int32}, (∀ j, j < m → P j = Q j) → lowf P m x = lowf Q m x := by
  intro m
  induction m with
  | zero => intro x _; rfl
  | succ m ih =>
    intro x h
    unfold lowf
    rw [h m (by omega)]
    exact ih (fun j hj => h j (by omega))
theorem EQd_inw (h : EQd M M' n d) {c : Nat} (hc : c < n) : inw M' n c = inw M n c := lowf_congr (fun _ hj => EQd_iwP h hc hj)
theorem EQd_blk (h : EQd M M' n d) {c : Nat} (hc : c < n) : blk M' n c = blk M n c := by
  unfold blk
  rw [EQd_hasT h hc, EQd_ons h hc, EQd_inw h hc]
theorem EQd_mv (h : EQd M M' n d) {c : Nat} (hc : c < n) : mv M' n c = mv M n c := by
  unfold mv
  rw [EQd_lft h hc, h.2.1 c hc 0 (by decide) (by decide), h.1, EQd_hasT h hc, EQd_blk h hc]
theorem EQd_wnd (h : EQd M M' n d) {c : Nat} (hc : c < n) : wnd M' c = wnd M c := by
  rw [wnd_F, wnd_F, h.2.1 c hc 0 (by decide) (by decide), h.1]
theorem EQd_set (h : EQd M M' n d) {c k : Nat} {v v' : Int32} (hk : k < 21) (hk6 : k ≠ 6) (hv : v' = v) : EQd (setF M c k v) (setF M' c k v') n d := by
  subst hv
  refine ⟨by rw [setF_lo (by decide), setF_lo (by decide)]; exact h.1, fun c' hc' k' hk' h6 => ?_, fun c' hc' => ?_⟩
  · by_cases e : c' = c
    · subst e
      by_cases e2 : k' = k
      · subst e2
        rw [F_same, F_same]
      · rw [F_nk e2, F_nk e2]
        exact h.2.1 c' hc' k' hk' h6
    · rw [F_nc e hk hk', F_nc e hk hk']
      exact h.2.1 c' hc' k' hk' h6
  · by_cases e : c' = c
    · subst e
      rw [F_nk (Ne.symm hk6), F_nk (Ne.symm hk6)]
      exact h.2.2 c' hc'
    · rw [F_nc e hk (by decide), F_nc e hk (by decide)]
      exact h.2.2 c' hc'
theorem EQd_wait (h : EQd M M' n d) {c : Nat} (hc : c < n) : EQd (setF M c 6 (F M c 6 + 1)) (setF M' c 6 (F M' c 6 + 1)) n d := by
  refine ⟨by rw [setF_lo (by decide), setF_lo (by decide)]; exact h.1, fun c' hc' k' hk' h6 => ?_, fun c' hc' => ?_⟩
  · rw [show F (setF M' c 6 (F M' c 6 + 1)) c' k' = F M' c' k' from F_nkk h6 (by decide) hk', show F (setF M c 6 (F M c 6 + 1)) c' k' = F M c' k' from F_nkk h6 (by decide) hk']
    exact h.2.1 c' hc' k' hk' h6
  · by_cases e : c' = c
    · subst e
      rw [F_same, F_same, h.2.2 c' hc', Int32.add_assoc, Int32.add_assoc, Int32.add_comm (d c') 1]
    · rw [F_nc e (by decide) (by decide), F_nc e (by decide) (by decide)]
      exact h.2.2 c' hc'
theorem EQd_stp (h : EQd M M' n d) {c : Nat} (hc : c < n) : EQd (stp M c) (stp M' c) n d := by
  have h3 : EQd (stp3 M c) (stp3 M' c) n d := by
    unfold stp3
    exact EQd_set (EQd_set (EQd_set h (by decide) (by decide) (EQd_nxt h hc)) (by decide) (by decide) rfl) (by decide) (by decide) (by rw [h.2.1 c hc 8 (by decide) (by decide)])
  unfold stp
  rw [EQd_nxt h hc, h.2.1 c hc 3 (by decide) (by decide)]
  split
  · unfold noT
    exact EQd_set (EQd_set h3 (by decide) (by decide) rfl) (by decide) (by decide) rfl
  · exact h3
theorem EQd_turn (h : EQd M M' n d) {c : Nat} (hc : c < n) : EQd (turn M n c) (turn M' n c) n d := by
  unfold turn
  rw [EQd_lft h hc, EQd_blk h hc, EQd_hasT h hc, h.2.1 c hc 5 (by decide) (by decide), h.2.1 c hc 1 (by decide) (by decide)]
  have hp : EQd (prg M c) (prg M' c) n d := EQd_set h (by decide) (by decide) (by rw [h.2.1 c hc 5 (by decide) (by decide)])
  split
  · exact EQd_set h (by decide) (by decide) (EQd_wnd h hc)
  · split
    · exact EQd_wait h hc
    · split
      · split
        · exact EQd_stp hp hc
        · exact hp
      · exact h
theorem EQd_tkC (h : EQd M M' n d) (p : Int32) (j : Nat) (hj : j ≤ n) : EQd (tkC M n p j) (tkC M' n p j) n d := by
  induction j with
  | zero => exact h
  | succ j ih =>
    have h1 := ih (by omega)
    unfold tkC
    rw [h1.2.1 j (by omega) 2 (by decide) (by decide)]
    split
    · exact EQd_turn h1 (by omega)
    · exact h1
theorem EQd_tkP (h : EQd M M' n d) (k : Nat) : EQd (tkP M n k) (tkP M' n k) n d := by
  induction k with
  | zero => exact h
  | succ k ih =>
    unfold tkP
    exact EQd_tkC ih _ n (Nat.le_refl _)
theorem EQd_time {v v' : Int32} (h : EQd M M' n d) : EQd (upd M 0 v) (upd M' 0 v') n d := by
  refine ⟨by rw [upd_ne (by decide), upd_ne (by decide)]; exact h.1, fun c hc k hk h6 => ?_, fun c hc => ?_⟩
  · rw [F_low (by decide), F_low (by decide)]
    exact h.2.1 c hc k hk h6
  · rw [F_low (by decide), F_low (by decide)]
    exact h.2.2 c hc
theorem EQd_tick (h : EQd M M' n d) : EQd (tickM M n) (tickM M' n) n d := EQd_time (EQd_tkP h 10)
theorem EQd_rf (M : Nat → Int32) : EQd M M n (fun _ => 0) := ⟨rfl, fun _ _ _ _ _ => rfl, fun _ _ => (Int32.add_zero _).symm⟩
theorem EQd_tr {M'' : Nat → Int32} {d' : Nat → Int32} (h : EQd M M' n d) (h' : EQd M' M'' n d') : EQd M M'' n (fun c => d c + d' c) := ⟨h'.1.trans h.1, fun c hc k hk h6 => (h'.2.1 c hc k hk h6).trans (h.2.1 c hc k hk h6), fun c hc => by rw [h'.2.2 c hc, h.2.2 c hc, Int32.add_assoc]⟩
/-- a turn in which nothing moves -/
theorem still_turn (hW : WF M n) {c : Nat} (hc : c < n) (hm : ¬ mv M n c = true) : ∃ d, EQd M (turn M n c) n d := by
  unfold mv at hm
  unfold turn
  by_cases h1 : lft M c = true
  · rw [if_pos h1] at hm
    rw [if_pos h1]
    have e : F M c 0 = M 1 := by simpa using hm
    obtain ⟨a, ha, h0⟩ := (hW.2.2 c hc).1
    have : wnd M c = F M c 0 := by
      rw [wnd_F, ← e, h0]
      exact a_wnd1 a ha
    rw [this, setF_id]
    exact ⟨_, EQd_rf M⟩
  · rw [if_neg h1] at hm
    rw [if_neg h1]
    by_cases h3 : blk M n c = true
    · rw [if_pos h3]
      refine ⟨fun c' => if c' = c then 1 else 0, setF_lo (by decide), fun c' hc' k' hk' h6 => F_nkk h6 (by decide) hk', fun c' hc' => ?_⟩
      by_cases e : c' = c
      · subst e
        rw [F_same]
        simp
      · rw [F_nc e (by decide) (by decide)]
        simp [e]
    · rw [if_neg h3]
      have h2 : ¬ hasT M c = true := fun h2 => hm (by simp [h2, h3])
      rw [if_neg h2]
      exact ⟨_, EQd_rf M⟩
theorem still_tkC (hW : WF M n) (p : Int32) (j : Nat) (hj : j ≤ n) (hm : mvC M n p j = false) : ∃ d, EQd M (tkC M n p j) n d := by
  induction j with
  | zero => exact ⟨_, EQd_rf M⟩
  | succ j ih =>
    unfold mvC at hm
    simp only [Bool.or_eq_false_iff] at hm
    obtain ⟨d1, h1⟩ := ih (by omega) hm.1
    unfold tkC
    split
    · rename_i e
      have h2 : ¬ mv (tkC M n p j) n j = true := fun h => by
        have := hm.2
        simp [e, h] at this
      obtain ⟨d2, h3⟩ := still_turn (WF_tkC hW j (by omega)) (show j < n by omega) h2
      exact ⟨_, EQd_tr h1 h3⟩
    · exact ⟨d1, h1⟩
theorem still_tkP (hW : WF M n) (k : Nat) (hm : mvP M n k = false) : ∃ d, EQd M (tkP M n k) n d := by
  induction k with
  | zero => exact ⟨_, EQd_rf M⟩
  | succ k ih =>
    unfold mvP at hm
    simp only [Bool.or_eq_false_iff] at hm
    obtain ⟨d1, h1⟩ := ih hm.1
    obtain ⟨d2, h2⟩ := still_tkC (WF_tkP hW k) (nI (9 - k)) n (Nat.le_refl _) hm.2
    exact ⟨_, EQd_tr h1 h2⟩
theorem still_tick (hW : WF M n) (hm : mvP M n 10 = false) : ∃ d, EQd M (tickM M n) n d := by
  obtain ⟨d, h⟩ := still_tkP hW 10 hm
  have h2 : EQd (tkP M n 10) (tickM M n) n (fun _ => 0) := by
    unfold tickM
    exact ⟨upd_ne (by decide), fun c hc k hk _ => F_low (by decide), fun c hc => by rw [F_low (by decide), Int32.add_zero]⟩
  exact ⟨_, EQd_tr h h2⟩
def itM (M : Nat → Int32) (n : Nat) : Nat → Nat → Int32
  | 0 => M
  | i + 1 => tickM (itM M n i) n
theorem itM_WF (hW : WF M n) (i : Nat) : WF (itM M n i) n := by
  induction i with
  | zero => exact hW
  | succ i ih => exact WF_tick ih
theorem itM_lo {i : Nat} (h : i < 4) (h0 : 0 < i) (j : Nat) : itM M n j i = M i := by
  induction j with
  | zero => rfl
  | succ j ih =>
    unfold itM
    rw [tickM_lo h h0]
    exact ih
theorem itM_hi (hn : n ≤ 4) {i : Nat} (h : 88 ≤ i) (j : Nat) : itM M n j i = M i := by
  induction j with
  | zero => rfl
  | succ j ih =>
    unfold itM
    rw [tickM_hi hn h]
    exact ih
/-- from a tick on in which nothing moves: all are like it -/
theorem still_it {i : Nat} (h : EQd (itM M n i) (itM M n (i + 1)) n d) : ∀ j, EQd (itM M n (i + j)) (itM M n (i + j + 1)) n d := by
  intro j
  induction j with
  | zero => exact h
  | succ j ih => exact EQd_tick ih
theorem still_hasT {i : Nat} (h : EQd (itM M n i) (itM M n (i + 1)) n d) (j : Nat) {c : Nat} (hc : c < n) : hasT (itM M n (i + j)) c = hasT (itM M n i) c := by
  induction j with
  | zero => rfl
  | succ j ih =>
    rw [← ih]
    exact EQd_hasT (still_it h j) hc
theorem still_wait {i : Nat} (h : EQd (itM M n i) (itM M n (i + 1)) n d) (j : Nat) {c : Nat} (hc : c < n) : F (itM M n (i + j)) c 6 = F (itM M n i) c 6 + nI j * d c := by
  induction j with
  | zero =>
    have : nI 0 * d c = 0 := Int32.zero_mul
    rw [this, Int32.add_zero]
    rfl
  | succ j ih =>
    have h1 := (still_it h j).2.2 c hc
    rw [show i + (j + 1) = i + j + 1 from rfl, h1, ih, nI_succ, Int32.add_mul, Int32.one_mul, Int32.add_assoc]
end EQ

