/-! the pure part: loops, indices, masks -/
theorem lp_run {σ ρ : Type} {body : σ → Option (σ ⊕ ρ)} (g : Nat → σ) (k : Nat) (r : ρ) (hs : ∀ i, i < k → body (g i) = some (.inl (g (i + 1)))) (hx : body (g k) = some (.inr r)) : ∀ (d fu j : Nat), j + d = k → d < fu → lp body fu (g j) = some r := by
  intro d
  induction d with
  | zero =>
    intro fu j hj hf
    obtain ⟨n, rfl⟩ : ∃ n, fu = n + 1 := ⟨fu - 1, by omega⟩
    have hj : j = k := by omega
    subst hj
    rw [lp, hx]
    rfl
  | succ d ih =>
    intro fu j hj hf
    obtain ⟨n, rfl⟩ : ∃ n, fu = n + 1 := ⟨fu - 1, by omega⟩
    rw [lp, hs j (by omega)]
    exact ih n (j + 1) (by omega) (by omega)
theorem lp_go {σ ρ : Type} {body : σ → Option (σ ⊕ ρ)} {fu : Nat} (g : Nat → σ) (k : Nat) (r : ρ) (hf : k < fu) (hs : ∀ i, i < k → body (g i) = some (.inl (g (i + 1)))) (hx : body (g k) = some (.inr r)) : lp body fu (g 0) = some r := lp_run g k r hs hx k fu 0 (by omega) hf
theorem lp_inl {σ ρ : Type} {body : σ → Option (σ ⊕ ρ)} {fu : Nat} {s s' : σ} (h : body s = some (.inl s')) : lp body (fu + 1) s = lp body fu s' := by
  rw [lp, h]
  rfl
theorem lp_inr {σ ρ : Type} {body : σ → Option (σ ⊕ ρ)} {fu : Nat} {s : σ} {r : ρ} (h : body s = some (.inr r)) : lp body (fu + 1) s = some r := by
  rw [lp, h]
  rfl
theorem q_nle {a b : Nat} (h : b < a) (ha : a < 2 ^ 31) : ¬ nI a ≤ nI b := fun h2 => absurd ((nI_leI ha (by omega)).mp h2) (by omega)
theorem q_le {a b : Nat} (h : a ≤ b) (hb : b < 2 ^ 31) : nI a ≤ nI b := (nI_leI (by omega) hb).mpr h
theorem q_nlt {a b : Nat} (h : b ≤ a) (ha : a < 2 ^ 31) : ¬ nI a < nI b := fun h2 => absurd ((nI_ltI ha (by omega)).mp h2) (by omega)
theorem q_lt {a b : Nat} (h : a < b) (hb : b < 2 ^ 31) : nI a < nI b := (nI_ltI (by omega) hb).mpr h
theorem q_ne {a b : Nat} (h : a ≠ b) (ha : a < 2 ^ 31) (hb : b < 2 ^ 31) : ¬ nI a = nI b := fun h2 => h ((nI_eq ha hb).mp h2)
theorem rd_n {f : Nat → Int32} {n k : Nat} (h : k < n) (hn : n < 2 ^ 31) : rdA f n (nI k) = some (f k) := by
  have h2 : k < 2 ^ 31 := by omega
  unfold rdA
  rw [nI_toInt h2, nI_clamp h2, if_pos ⟨by omega, by omega⟩]
theorem wr_n {f : Nat → Int32} {n k : Nat} {v : Int32} (h : k < n) (hn : n < 2 ^ 31) : wrA f n (nI k) v = some (upd f k v) := by
  have h2 : k < 2 ^ 31 := by omega
  unfold wrA
  rw [nI_toInt h2, nI_clamp h2, if_pos ⟨by omega, by omega⟩]
/-- where the class keeps what the reference keeps at the place k of the crane c -/
def ix (c k : Nat) : Nat := if k < 8 then 4 + 4 * k + c else if k = 8 then 40 + c else if k % 2 = 1 then 44 + c * 6 + (k - 9) / 2 else 68 + c * 6 + (k - 10) / 2
def F (M : Nat → Int32) (c k : Nat) : Int32 := M (4 + 21 * c + k)
def setF (M : Nat → Int32) (c k : Nat) (v : Int32) : Nat → Int32 := upd M (4 + 21 * c + k) v
theorem ix_inj0 : ∀ a, a < 84 → ∀ b, b < 84 → ix (a / 21) (a % 21) = ix (b / 21) (b % 21) → a = b := by decide +kernel
theorem ix_inj (c : Nat) (hc : c < 4) (k : Nat) (hk : k < 21) (c' : Nat) (hc' : c' < 4) (k' : Nat) (hk' : k' < 21) (h : ix c k = ix c' k') : c = c' ∧ k = k' := by
  have e1 : (21 * c + k) / 21 = c := by omega
  have e2 : (21 * c + k) % 21 = k := by omega
  have e3 : (21 * c' + k') / 21 = c' := by omega
  have e4 : (21 * c' + k') % 21 = k' := by omega
  have := ix_inj0 (21 * c + k) (by omega) (21 * c' + k') (by omega) (by rw [e1, e2, e3, e4]; exact h)
  omega
theorem ix_lt : ∀ c, c < 4 → ∀ k, k < 21 → 4 ≤ ix c k ∧ ix c k < 92 := by decide +kernel
theorem ix_0 (c : Nat) : ix c 0 = 4 + c := by simp [ix]
theorem rd4 {f : Nat → Int32} {c : Nat} (h : c < 4) : rdA f 132 ((4 : Int32) + nI c) = some (f (ix c 0)) := by
  rw [ix_0]
  show rdA f 132 (nI 4 + nI c) = _
  rw [nI_add]
  exact rd_n (by omega) (by decide)
theorem wr4 {f : Nat → Int32} {c : Nat} {v : Int32} (h : c < 4) : wrA f 132 ((4 : Int32) + nI c) v = some (upd f (ix c 0) v) := by
  rw [ix_0]
  show wrA f 132 (nI 4 + nI c) v = _
  rw [nI_add]
  exact wr_n (by omega) (by decide)
theorem ix_1 (c : Nat) : ix c 1 = 8 + c := by simp [ix]
theorem rd8 {f : Nat → Int32} {c : Nat} (h : c < 4) : rdA f 132 ((8 : Int32) + nI c) = some (f (ix c 1)) := by
  rw [ix_1]
  show rdA f 132 (nI 8 + nI c) = _
  rw [nI_add]
  exact rd_n (by omega) (by decide)
theorem wr8 {f : Nat → Int32} {c : Nat} {v : Int32} (h : c < 4) : wrA f 132 ((8 : Int32) + nI c) v = some (upd f (ix c 1) v) := by
  rw [ix_1]
  show wrA f 132 (nI 8 + nI c) v = _
  rw [nI_add]
  exact wr_n (by omega) (by decide)
theorem ix_2 (c : Nat) : ix c 2 = 12 + c := by simp [ix]
theorem rd12 {f : Nat → Int32} {c : Nat} (h : c < 4) : rdA f 132 ((12 : Int32) + nI c) = some (f (ix c 2)) := by
  rw [ix_2]
  show rdA f 132 (nI 12 + nI c) = _
  rw [nI_add]
  exact rd_n (by omega) (by decide)
theorem wr12 {f : Nat → Int32} {c : Nat} {v : Int32} (h : c < 4) : wrA f 132 ((12 : Int32) + nI c) v = some (upd f (ix c 2) v) := by
  rw [ix_2]
  show wrA f 132 (nI 12 + nI c) v = _
  rw [nI_add]
  exact wr_n (by omega) (by decide)
theorem ix_3 (c : Nat) : ix c 3 = 16 + c := by simp [ix]
theorem rd16 {f : Nat → Int32} {c : Nat} (h : c < 4) : rdA f 132 ((16 : Int32) + nI c) = some (f (ix c 3)) := by
  rw [ix_3]
  show rdA f 132 (nI 16 + nI c) = _
  rw [nI_add]
  exact rd_n (by omega) (by decide)
theorem wr16 {f : Nat → Int32} {c : Nat} {v : Int32} (h : c < 4) : wrA f 132 ((16 : Int32) + nI c) v = some (upd f (ix c 3) v) := by
  rw [ix_3]
  show wrA f 132 (nI 16 + nI c) v = _
  rw [nI_add]
  exact wr_n (by omega) (by decide)
theorem ix_4 (c : Nat) : ix c 4 = 20 + c := by simp [ix]
theorem rd20 {f : Nat → Int32} {c : Nat} (h : c < 4) : rdA f 132 ((20 : Int32) + nI c) = some (f (ix c 4)) := by
  rw [ix_4]
  show rdA f 132 (nI 20 + nI c) = _
  rw [nI_add]
  exact rd_n (by omega) (by decide)
theorem wr20 {f : Nat → Int32} {c : Nat} {v : Int32} (h : c < 4) : wrA f 132 ((20 : Int32) + nI c) v = some (upd f (ix c 4) v) := by
  rw [ix_4]
  show wrA f 132 (nI 20 + nI c) v = _
  rw [nI_add]
  exact wr_n (by omega) (by decide)
theorem ix_5 (c : Nat) : ix c 5 = 24 + c := by simp [ix]
theorem rd24 {f : Nat → Int32} {c : Nat} (h : c < 4) : rdA f 132 ((24 : Int32) + nI c) = some (f (ix c 5)) := by
  rw [ix_5]
  show rdA f 132 (nI 24 + nI c) = _
  rw [nI_add]
  exact rd_n (by omega) (by decide)
theorem wr24 {f : Nat → Int32} {c : Nat} {v : Int32} (h : c < 4) : wrA f 132 ((24 : Int32) + nI c) v = some (upd f (ix c 5) v) := by
  rw [ix_5]
  show wrA f 132 (nI 24 + nI c) v = _
  rw [nI_add]
  exact wr_n (by omega) (by decide)
theorem ix_6 (c : Nat) : ix c 6 = 28 + c := by simp [ix]
theorem rd28 {f : Nat → Int32} {c : Nat} (h : c < 4) : rdA f 132 ((28 : Int32) + nI c) = some (f (ix c 6)) := by
  rw [ix_6]
  show rdA f 132 (nI 28 + nI c) = _
  rw [nI_add]
  exact rd_n (by omega) (by decide)
theorem wr28 {f : Nat → Int32} {c : Nat} {v : Int32} (h : c < 4) : wrA f 132 ((28 : Int32) + nI c) v = some (upd f (ix c 6) v) := by
  rw [ix_6]
  show wrA f 132 (nI 28 + nI c) v = _
  rw [nI_add]
  exact wr_n (by omega) (by decide)
theorem ix_7 (c : Nat) : ix c 7 = 32 + c := by simp [ix]
theorem rd32 {f : Nat → Int32} {c : Nat} (h : c < 4) : rdA f 132 ((32 : Int32) + nI c) = some (f (ix c 7)) := by
  rw [ix_7]
  show rdA f 132 (nI 32 + nI c) = _
  rw [nI_add]
  exact rd_n (by omega) (by decide)
theorem wr32 {f : Nat → Int32} {c : Nat} {v : Int32} (h : c < 4) : wrA f 132 ((32 : Int32) + nI c) v = some (upd f (ix c 7) v) := by
  rw [ix_7]
  show wrA f 132 (nI 32 + nI c) v = _
  rw [nI_add]
  exact wr_n (by omega) (by decide)
theorem ix_8 (c : Nat) : ix c 8 = 40 + c := by simp [ix]
theorem rd40 {f : Nat → Int32} {c : Nat} (h : c < 4) : rdA f 132 ((40 : Int32) + nI c) = some (f (ix c 8)) := by
  rw [ix_8]
  show rdA f 132 (nI 40 + nI c) = _
  rw [nI_add]
  exact rd_n (by omega) (by decide)
theorem wr40 {f : Nat → Int32} {c : Nat} {v : Int32} (h : c < 4) : wrA f 132 ((40 : Int32) + nI c) v = some (upd f (ix c 8) v) := by
  rw [ix_8]
  show wrA f 132 (nI 40 + nI c) v = _
  rw [nI_add]
  exact wr_n (by omega) (by decide)
theorem ix_f (c z : Nat) : ix c (9 + 2 * z) = 44 + c * 6 + z := by
  unfold ix
  rw [if_neg (by omega), if_neg (by omega), if_pos (by omega)]
  omega
theorem ix_l (c z : Nat) : ix c (9 + 2 * z + 1) = 68 + c * 6 + z := by
  unfold ix
  rw [if_neg (by omega), if_neg (by omega), if_neg (by omega)]
  omega
theorem rd44 {f : Nat → Int32} {c z : Nat} (h : c < 4) (hz : z < 6) : rdA f 132 (((44 : Int32) + (nI c * (6 : Int32))) + nI z) = some (f (ix c (9 + 2 * z))) := by
  rw [ix_f]
  show rdA f 132 ((nI 44 + (nI c * nI 6)) + nI z) = _
  rw [pk_mul, nI_add, nI_add]
  exact rd_n (by omega) (by decide)
theorem wr44 {f : Nat → Int32} {c z : Nat} {v : Int32} (h : c < 4) (hz : z < 6) : wrA f 132 (((44 : Int32) + (nI c * (6 : Int32))) + nI z) v = some (upd f (ix c (9 + 2 * z)) v) := by
  rw [ix_f]
  show wrA f 132 ((nI 44 + (nI c * nI 6)) + nI z) v = _
  rw [pk_mul, nI_add, nI_add]
  exact wr_n (by omega) (by decide)
theorem rd68 {f : Nat → Int32} {c z : Nat} (h : c < 4) (hz : z < 6) : rdA f 132 (((68 : Int32) + (nI c * (6 : Int32))) + nI z) = some (f (ix c (9 + 2 * z + 1))) := by
  rw [ix_l]
  show rdA f 132 ((nI 68 + (nI c * nI 6)) + nI z) = _
  rw [pk_mul, nI_add, nI_add]
  exact rd_n (by omega) (by decide)
theorem wr68 {f : Nat → Int32} {c z : Nat} {v : Int32} (h : c < 4) (hz : z < 6) : wrA f 132 (((68 : Int32) + (nI c * (6 : Int32))) + nI z) v = some (upd f (ix c (9 + 2 * z + 1)) v) := by
  rw [ix_l]
  show wrA f 132 ((nI 68 + (nI c * nI 6)) + nI z) v = _
  rw [pk_mul, nI_add, nI_add]
  exact wr_n (by omega) (by decide)
theorem rdk0 {f : Nat → Int32} : rdA f 132 (0 : Int32) = some (f 0) := rd_n (k := 0) (by decide) (by decide)
theorem wrk0 {f : Nat → Int32} {v : Int32} : wrA f 132 (0 : Int32) v = some (upd f 0 v) := wr_n (k := 0) (by decide) (by decide)
theorem rdk1 {f : Nat → Int32} : rdA f 132 (1 : Int32) = some (f 1) := rd_n (k := 1) (by decide) (by decide)
theorem wrk1 {f : Nat → Int32} {v : Int32} : wrA f 132 (1 : Int32) v = some (upd f 1 v) := wr_n (k := 1) (by decide) (by decide)
theorem rdk2 {f : Nat → Int32} : rdA f 132 (2 : Int32) = some (f 2) := rd_n (k := 2) (by decide) (by decide)
theorem wrk2 {f : Nat → Int32} {v : Int32} : wrA f 132 (2 : Int32) v = some (upd f 2 v) := wr_n (k := 2) (by decide) (by decide)
theorem rdk3 {f : Nat → Int32} : rdA f 132 (3 : Int32) = some (f 3) := rd_n (k := 3) (by decide) (by decide)
theorem wrk3 {f : Nat → Int32} {v : Int32} : wrA f 132 (3 : Int32) v = some (upd f 3 v) := wr_n (k := 3) (by decide) (by decide)
theorem q_arc (z : Nat) : (9 : Int32) + ((2 : Int32) * nI z) = nI (9 + 2 * z) := by
  show nI 9 + (nI 2 * nI z) = _
  rw [pk_mul, nI_add]
theorem q_arc1 (z : Nat) : ((9 : Int32) + ((2 : Int32) * nI z)) + (1 : Int32) = nI (9 + 2 * z + 1) := by rw [q_arc, nI_1]
theorem q_arc0 (z : Nat) : ((9 : Int32) + ((2 : Int32) * nI z)) + (0 : Int32) = nI (9 + 2 * z) := by
  rw [q_arc]
  show nI (9 + 2 * z) + nI 0 = _
  rw [nI_add, Nat.add_zero]
theorem F_same {M : Nat → Int32} {c k : Nat} {v : Int32} : F (setF M c k v) c k = v := by simp [F, setF, upd]
theorem F_nk {M : Nat → Int32} {c k k' : Nat} {v : Int32} (h : k' ≠ k) : F (setF M c k v) c k' = F M c k' := by
  unfold F setF upd
  rw [if_neg (by omega)]
theorem F_nc {M : Nat → Int32} {c c' k k' : Nat} {v : Int32} (h : c' ≠ c) (hk : k < 21) (hk' : k' < 21) : F (setF M c k v) c' k' = F M c' k' := by
  unfold F setF upd
  rw [if_neg (by omega)]
theorem setF_lo {M : Nat → Int32} {c k i : Nat} {v : Int32} (h : i < 4) : setF M c k v i = M i := by
  unfold setF upd
  rw [if_neg (by omega)]
theorem setF_hi {M : Nat → Int32} {c k i : Nat} {v : Int32} (hc : c < 4) (hk : k < 21) (h : 88 ≤ i) : setF M c k v i = M i := by
  unfold setF upd
  rw [if_neg (by omega)]
theorem F_low {M : Nat → Int32} {i c k : Nat} {v : Int32} (h : i < 4) : F (upd M i v) c k = F M c k := by
  unfold F upd
  rw [if_neg (by omega)]
theorem F_high {M : Nat → Int32} {i c k : Nat} {v : Int32} (hc : c < 4) (hk : k < 21) (h : 88 ≤ i) : F (upd M i v) c k = F M c k := by
  unfold F upd
  rw [if_neg (by omega)]
theorem upd_ne {f : Nat → Int32} {i j : Nat} {v : Int32} (h : j ≠ i) : upd f i v j = f j := by
  unfold upd
  rw [if_neg h]
theorem upd_eq {f : Nat → Int32} {i : Nat} {v : Int32} : upd f i v i = v := by simp [upd]
/-- the class's row X holds the present state of the reference's row M, with n cranes -/
def Rel (X M : Nat → Int32) (n : Nat) : Prop := n ≤ 4 ∧ X 2 = nI n ∧ M 2 = nI n ∧ X 0 = M 0 ∧ X 1 = M 1 ∧ X 3 = M 3 ∧ (∀ j, j < 40 → X (92 + j) = M (88 + j)) ∧ (∀ c, c < n → ∀ k, k < 21 → X (ix c k) = F M c k) ∧ (∀ c, n ≤ c → c < 4 → ∀ k, 4 ≤ k → k < 21 → X (ix c k) = if k < 9 then 0 else -100)
theorem Rel.f {X M : Nat → Int32} {n c : Nat} (h : Rel X M n) (hc : c < n) (k : Nat) (hk : k < 21) : X (ix c k) = F M c k := h.2.2.2.2.2.2.2.1 c hc k hk
theorem Rel.lt {X M : Nat → Int32} {n c : Nat} (h : Rel X M n) (hc : c < n) : c < 4 := Nat.lt_of_lt_of_le hc h.1
theorem Rel.set {X M : Nat → Int32} {n c k : Nat} (v : Int32) (h : Rel X M n) (hc : c < n) (hk : k < 21) : Rel (upd X (ix c k) v) (setF M c k v) n := by
  obtain ⟨h1, h2, h3, h4, h5, h6, h7, h8, h9⟩ := h
  have hc4 : c < 4 := by omega
  have hlo := ix_lt c hc4 k hk
  refine ⟨h1, ?_, ?_, ?_, ?_, ?_, ?_, ?_, ?_⟩
  · rw [upd_ne (by omega)]; exact h2
  · rw [setF_lo (by omega)]; exact h3
  · rw [upd_ne (by omega), setF_lo (by omega)]; exact h4
  · rw [upd_ne (by omega), setF_lo (by omega)]; exact h5
  · rw [upd_ne (by omega), setF_lo (by omega)]; exact h6
  · intro j hj
    rw [upd_ne (by omega), setF_hi hc4 hk (by omega)]
    exact h7 j hj
  · intro c' hc' k' hk'
    by_cases e : ix c' k' = ix c k
    · obtain ⟨e1, e2⟩ := ix_inj c' (by omega) k' hk' c hc4 k hk e
      subst e1; subst e2
      rw [upd_eq, F_same]
    · rw [upd_ne e, h8 c' hc' k' hk']
      by_cases e1 : c' = c
      · subst e1
        by_cases e2 : k' = k
        · subst e2
          exact absurd rfl e
        · rw [F_nk e2]
      · rw [F_nc e1 hk hk']
  · intro c' h1' h2' k' hk4 hk'
    have e : ix c' k' ≠ ix c k := fun e => by
      have := (ix_inj c' h2' k' hk' c hc4 k hk e).1
      omega
    rw [upd_ne e]
    exact h9 c' h1' h2' k' hk4 hk'


