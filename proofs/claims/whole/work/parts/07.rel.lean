section TRG
variable {xa xb xc xd xe xf xg xh xi ya yb yc yd ye yf yg yh yi : Int32} {qa qb qc qd qe qf qg qh qi pa pb pc pd pe pf pg : Nat → Int32}
/-! the relation -/
def tr_xr (a b d u : Nat → Int32) (q : Nat) (D : TrD) : Prop := b q = nI D.1 ∧ d q = nI (D.1 + D.2.1) ∧ u q = D.2.2.1 ∧ ∀ j, j < D.1 + D.2.1 → a (q * 28 + j) = nI (D.2.2.2 j)
def tr_yr (a b d u : Nat → Int32) (q : Nat) (D : TrD) : Prop := b q = nI D.1 ∧ d q = nI D.2.1 ∧ u q = D.2.2.1 ∧ ∀ j, j < D.1 + D.2.1 → a (q * 28 + j) = nI (D.2.2.2 j)
/-- the rules held -/
def tr_R (qa qb qc qd pa pb pc pd : Nat → Int32) (R : Nat → TrD) (rc : Nat) : Prop := ∀ q, q < rc → tr_ok (R q) ∧ tr_xr qa qb qc qd q (R q) ∧ tr_yr pa pb pc pd q (R q)
def tr_lin (en : Nat → Nat) (n : Nat) : Prop := ∀ j k, j < n → k < n → en j = en k → 16 ≤ en j → j = k
/-- an entry under way: n cells of the side accepted, m terms missing, el cells of the left side ahead of them -/
def tr_en (md TL n m el : Nat) (yi : Int32) (en : Nat → Nat) : Prop :=
  (md = 1 ∧ el = 0 ∧ n + m ≤ 12 ∧ (∀ j, j < n → en j < 24) ∧ tr_lin en n) ∨
  (md = 2 ∧ yi = nI el ∧ el ≤ 12 ∧ n + m ≤ 16 ∧ (∀ j, j < el + n → en j < 24) ∧ tr_lin en el ∧ (∀ j, el ≤ j → j < el + n → 16 ≤ en j → ∃ k, k < el ∧ en k = en j)) ∨
  (md = 3 ∧ el = 0 ∧ n + m ≤ TL ∧ ∀ j, j < n → en j < 16)
def tr_ent (RL TL rc md : Nat) (xg xh xi yg yh yi : Int32) (qf pf : Nat → Int32) : Prop :=
  md = 0 ∨ ∃ (n m el : Nat) (en : Nat → Nat), xg = nI (el + n) ∧ xh = nI el ∧ xi = nI m ∧ yg = nI n ∧ yh = nI m ∧ 1 ≤ m ∧ tr_la qf en (el + n) ∧ tr_la pf en (el + n) ∧ (md = 3 ∨ rc < RL) ∧ tr_en md TL n m el yi en
def tr_inv (RL TL rc s md : Nat) (R : Nat → TrD) (T : Nat → Nat) (xg xh xi yg yh yi : Int32) (qa qb qc qd qe qf pa pb pc pd pe pf : Nat → Int32) : Prop :=
  (1 ≤ RL ∧ RL ≤ 12 ∧ 8 ≤ TL ∧ TL ≤ 64 ∧ rc ≤ RL ∧ s ≤ TL ∧ md ≤ 3) ∧ tr_R qa qb qc qd pa pb pc pd R rc ∧ (tr_la qe T s ∧ tr_la pe T s ∧ ∀ j, j < s → T j < 16) ∧ tr_ent RL TL rc md xg xh xi yg yh yi qf pf
def i_Rel (_ : Nat) (u : SX) (v : SY) : Prop := ∃ (RL TL rc s md : Nat) (R : Nat → TrD) (T : Nat → Nat) (sc xg xh xi yg yh yi : Int32) (qa qb qc qd qe qf qg qh qi pa pb pc pd pe pf pg : Nat → Int32),
  u = (nI RL, nI TL, nI rc, nI s, sc, nI md, xg, xh, xi, qa, qb, qc, qd, qe, qf, qg, qh, qi) ∧ v = (nI RL, nI TL, nI rc, nI s, sc, nI md, yg, yh, yi, pa, pb, pc, pd, pe, pf, pg) ∧ tr_inv RL TL rc s md R T xg xh xi yg yh yi qa qb qc qd qe qf pa pb pc pd pe pf
theorem i_up {k : Nat} {u : SX} {v : SY} (h : i_Rel k u v) : i_Rel (k + 3) u v := h
theorem tr_mk {k RL TL rc s md : Nat} {R : Nat → TrD} {T : Nat → Nat} {sc : Int32} (h : tr_inv RL TL rc s md R T xg xh xi yg yh yi qa qb qc qd qe qf pa pb pc pd pe pf) :
    i_Rel k (nI RL, nI TL, nI rc, nI s, sc, nI md, xg, xh, xi, qa, qb, qc, qd, qe, qf, qg, qh, qi) (nI RL, nI TL, nI rc, nI s, sc, nI md, yg, yh, yi, pa, pb, pc, pd, pe, pf, pg) :=
  ⟨RL, TL, rc, s, md, R, T, sc, xg, xh, xi, yg, yh, yi, qa, qb, qc, qd, qe, qf, qg, qh, qi, pa, pb, pc, pd, pe, pf, pg, rfl, rfl, h⟩
theorem tr_inv0 {RL TL : Nat} (h1 : 1 ≤ RL) (h2 : RL ≤ 12) (h3 : 8 ≤ TL) (h4 : TL ≤ 64) {R : Nat → TrD} {T : Nat → Nat} : tr_inv RL TL 0 0 0 R T xg xh xi yg yh yi qa qb qc qd qe qf pa pb pc pd pe pf :=
  ⟨⟨h1, h2, h3, h4, Nat.zero_le _, Nat.zero_le _, Nat.zero_le _⟩, fun q h => absurd h (Nat.not_lt_zero _), ⟨fun j h => absurd h (Nat.not_lt_zero _), fun j h => absurd h (Nat.not_lt_zero _), fun j h => absurd h (Nat.not_lt_zero _)⟩, Or.inl rfl⟩
theorem tr_clamp (x : Int32) (a b : Nat) (hab : a ≤ b) (hb : b < 2 ^ 31) : ∃ n : Nat, a ≤ n ∧ n ≤ b ∧ ((¬ nI a ≤ x ∧ n = a) ∨ (nI a ≤ x ∧ ¬ x ≤ nI b ∧ n = b) ∨ (nI a ≤ x ∧ x ≤ nI b ∧ x = nI n)) := by
  by_cases h1 : nI a ≤ x
  · by_cases h2 : x ≤ nI b
    · have h0 : ¬ x < 0 := Int32.not_lt.mpr (Int32.le_trans (nI_pos' (n := a) (by omega)) h1)
      obtain ⟨j, hj, rfl⟩ := nI_of h0
      rw [nI_leI (by omega) hj] at h1
      rw [nI_leI hj hb] at h2
      exact ⟨j, h1, h2, Or.inr (Or.inr ⟨nI_le h1 hj, nI_le h2 hb, rfl⟩)⟩
    · exact ⟨b, hab, Nat.le_refl _, Or.inr (Or.inl ⟨h1, h2, rfl⟩)⟩
  · exact ⟨a, Nat.le_refl _, hab, Or.inl ⟨h1, rfl⟩⟩
theorem tr_xcl {post : Int32 → Prop} {x : Int32} {a b n : Nat} (h : (¬ nI a ≤ x ∧ n = a) ∨ (nI a ≤ x ∧ ¬ x ≤ nI b ∧ n = b) ∨ (nI a ≤ x ∧ x ≤ nI b ∧ x = nI n)) (hp : post (nI n)) : wpX_clamp post x (nI a) (nI b) := by
  rcases h with ⟨h1, rfl⟩ | ⟨h1, h2, rfl⟩ | ⟨h1, h2, e⟩
  · exact br_f h1 hp
  · exact br_t h1 (br_f h2 hp)
  · refine br_t h1 (br_t h2 ?_)
    rw [e]; exact hp
theorem tr_y84 {post : SY → Prop} {x z0 : Int32} {n : Nat} (h : (¬ nI 8 ≤ x ∧ n = 8) ∨ (nI 8 ≤ x ∧ ¬ x ≤ nI 64 ∧ n = 64) ∨ (nI 8 ≤ x ∧ x ≤ nI 64 ∧ x = nI n)) (hp : post (z0, nI n, yc, yd, ye, yf, yg, yh, yi, pa, pb, pc, pd, pe, pf, pg)) : wY_init_84 post x z0 ya yb yc yd ye yf yg yh yi pa pb pc pd pe pf pg := by
  rcases h with ⟨h1, rfl⟩ | ⟨h1, h2, rfl⟩ | ⟨h1, h2, e⟩
  · exact br_f h1 hp
  · exact br_t h1 (br_f h2 hp)
  · refine br_t h1 (br_t h2 ?_)
    rw [e]; exact hp
theorem i_vc0 (k0 : Int32) (k1 : Int32) : wpX_init (fun u => wpY_init (fun v => i_Rel 2 u v) k0 k1) k0 k1 := by
  obtain ⟨RL, a1, a2, a3⟩ := tr_clamp k0 1 12 (by decide) (by decide)
  obtain ⟨TL, b1, b2, b3⟩ := tr_clamp k1 8 64 (by decide) (by decide)
  unfold wpX_init
  refine tr_xcl (a := 1) (b := 12) a3 ?_
  refine tr_xcl (a := 8) (b := 64) b3 ?_
  unfold wpY_init
  rcases a3 with ⟨h1, rfl⟩ | ⟨h1, h2, rfl⟩ | ⟨h1, h2, e⟩
  · exact br_f h1 (tr_y84 b3 (tr_mk (R := fun _ => (0, 0, 0, fun _ => 0)) (T := fun _ => 0) (tr_inv0 a1 a2 b1 b2)))
  · exact br_t h1 (br_f h2 (tr_y84 b3 (tr_mk (R := fun _ => (0, 0, 0, fun _ => 0)) (T := fun _ => 0) (tr_inv0 a1 a2 b1 b2))))
  · refine br_t h1 (br_t h2 (tr_y84 b3 ?_))
    rw [e]
    exact tr_mk (R := fun _ => (0, 0, 0, fun _ => 0)) (T := fun _ => 0) (tr_inv0 a1 a2 b1 b2)
/-! the readers' bundles out of the relation -/
section
variable {k RL TL rc s md : Nat} {R : Nat → TrD} {T : Nat → Nat}
theorem tr_ixt (h : tr_inv RL TL rc s md R T xg xh xi yg yh yi qa qb qc qd qe qf pa pb pc pd pe pf) : tr_tm qe T s ∧ tr_tm pe T s :=
  ⟨⟨by have := h.1; omega, h.2.2.1.1, h.2.2.1.2.2⟩, ⟨by have := h.1; omega, h.2.2.1.2.1, h.2.2.1.2.2⟩⟩
theorem tr_ixr (h : tr_inv RL TL rc s md R T xg xh xi yg yh yi qa qb qc qd qe qf pa pb pc pd pe pf) : tr_rl qa qb R rc ∧ tr_rl pa pb R rc :=
  ⟨⟨by have := h.1; omega, fun q hq => ⟨(h.2.1 q hq).1, (h.2.1 q hq).2.1.1, (h.2.1 q hq).2.1.2.2.2⟩⟩, ⟨by have := h.1; omega, fun q hq => ⟨(h.2.1 q hq).1, (h.2.1 q hq).2.2.1, (h.2.1 q hq).2.2.2.2.2⟩⟩⟩
end
end TRG
