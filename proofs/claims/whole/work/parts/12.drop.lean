section TRL
variable {xa xb xc xd xe xf xg xh xi ya yb yc yd ye yf yg yh yi : Int32} {qa qb qc qd qe qf qg qh qi pa pb pc pd pe pf pg : Nat → Int32}
/-! dropRule -/
def tr_sh (R : Nat → TrD) (r : Nat) : Nat → TrD := fun q => if q < r then R q else R (q + 1)
theorem tr_sh_l {R : Nat → TrD} {r q : Nat} (h : q < r) : tr_sh R r q = R q := if_pos h
theorem tr_sh_g {R : Nat → TrD} {r q : Nat} (h : ¬ q < r) : tr_sh R r q = R (q + 1) := if_neg h
theorem tr_xMv {post : SX → Prop} {D : TrD} {to : Nat} (hto : to + 1 < 12) (h28 : D.1 + D.2.1 ≤ 28) (hD : tr_xr qa qb qc qd (to + 1) D)
    (k0 : ∀ a, (∀ i, i < D.1 + D.2.1 → a (to * 28 + i) = nI (D.2.2.2 i)) → (∀ p, p < to * 28 ∨ to * 28 + 28 ≤ p → a p = qa p) → post (xa, xb, xc, xd, xe, xf, xg, xh, xi, a, upd qb to (nI D.1), upd qc to (nI (D.1 + D.2.1)), upd qd to D.2.2.1, qe, qf, qg, qh, qi)) : wpX_moveRuleDown post (xa, xb, xc, xd, xe, xf, xg, xh, xi, qa, qb, qc, qd, qe, qf, qg, qh, qi) (nI to) := by
  obtain ⟨d1, d2, d3, d4⟩ := hD
  have H : ∀ (n j : Nat) (a : Nat → Int32), D.1 + D.2.1 + 1 ≤ n + j → j ≤ D.1 + D.2.1 → (∀ i, i < j → a (to * 28 + i) = nI (D.2.2.2 i)) → (∀ p, p < to * 28 ∨ to * 28 + 28 ≤ p → a p = qa p) →
      wX_moveRuleDown_6 post (nI to) (nI (to + 1)) xa xb xc xd xe xf xg xh xi n (nI j) a qb qc qd qe qf qg qh qi := by
    intro n
    induction n with
    | zero => intro j a b c; omega
    | succ n ih =>
      intro j a hn hj h1 h2
      have v1 : vp_in (nI to) 12 := vp_in_nI (by omega) (by decide)
      have v2 : vp_in (nI (to + 1)) 12 := vp_in_nI hto (by decide)
      refine ⟨v2, ?_⟩
      rw [nI_clamp (show to + 1 < 2 ^ 31 by omega), nI_clamp (show to < 2 ^ 31 by omega), d1, d2, d3]
      refine pk_le (D.1 + D.2.1) j (fun h => ⟨v2, v1, nm_e ⟨v2, v1, nm_e ⟨v2, v1, nm_e ?_⟩⟩⟩) (fun h => ⟨by rw [tr_28]; exact vp_in_nI (by omega) (by decide), by rw [tr_28]; exact vp_in_nI (by omega) (by decide), ?_⟩)
      · have e : j = D.1 + D.2.1 := by omega
        subst e
        exact k0 a h1 h2
      · rw [tr_28, tr_28, nI_clamp (by omega), nI_clamp (by omega), h2 _ (by omega), d4 j h]
        refine nm_e (nm_r (nI_1 j) (ih (j + 1) _ (by omega) (by omega) (fun i hi => ?_) (fun p hp => ?_)))
        · by_cases z : i = j
          · subst z; exact pk_us
          · rw [pk_un (by omega)]; exact h1 i (by omega)
        · rw [pk_un (by omega)]; exact h2 p hp
  exact nm_r (nI_1 to) ⟨D.1 + D.2.1 + 1, H (D.1 + D.2.1 + 1) 0 qa (by omega) (Nat.zero_le _) (fun i hi => absurd hi (Nat.not_lt_zero _)) (fun p _ => rfl)⟩
theorem tr_row {q to : Nat} {D : TrD} (hq : q ≠ to) (h28 : D.1 + D.2.1 ≤ 28) {i : Nat} (hi : i < D.1 + D.2.1) : q * 28 + i < to * 28 ∨ to * 28 + 28 ≤ q * 28 + i := by omega
theorem tr_xDr {post : Int32 → SX → Prop} {R : Nat → TrD} {rc r : Nat} (hrc : rc < 12) (hr : r ≤ rc) (h28 : ∀ q, q < rc + 1 → (R q).1 + (R q).2.1 ≤ 28)
    (k0 : ∀ qa qb qc qd, (∀ q, q < rc → tr_xr qa qb qc qd q (tr_sh R r q)) → post 0 (xa, xb, nI rc, xd, xe, xf, xg, xh, xi, qa, qb, qc, qd, qe, qf, qg, qh, qi)) : ∀ (n to : Nat) (qa qb qc qd : Nat → Int32), rc + 1 ≤ n + to → r ≤ to → to ≤ rc → (∀ q, q < to → tr_xr qa qb qc qd q (tr_sh R r q)) → (∀ q, to ≤ q → q < rc + 1 → tr_xr qa qb qc qd q (R q)) →
    wX_dropRule_25 post n (nI to) xa xb (nI (rc + 1)) xd xe xf xg xh xi qa qb qc qd qe qf qg qh qi := by
  intro n
  induction n with
  | zero => intro to qa qb qc qd a b c; omega
  | succ n ih =>
    intro to qa qb qc qd hn hrt hto h1 h2
    refine pk_le rc to (fun h => nm_r (nI_pred rc) (k0 _ _ _ _ fun q hq => h1 q (by omega))) (fun h => ?_) (hx := nI_pred rc)
    refine tr_xMv (D := R (to + 1)) (by omega) (h28 _ (by omega)) (h2 _ (by omega) (by omega)) (fun a ha hb => nm_r (nI_1 to) ?_)
    refine ih (to + 1) _ _ _ _ (by omega) (by omega) (by omega) (fun q hq => ?_) (fun q hq hq2 => ?_)
    · by_cases e : q = to
      · subst e
        rw [tr_sh_g (by omega)]
        exact ⟨pk_us, pk_us, pk_us, ha⟩
      · obtain ⟨x1, x2, x3, x4⟩ := h1 q (by omega)
        have h3 : (tr_sh R r q).1 + (tr_sh R r q).2.1 ≤ 28 := by
          unfold tr_sh
          split
          · exact h28 q (by omega)
          · exact h28 (q + 1) (by omega)
        exact ⟨by rw [pk_un e]; exact x1, by rw [pk_un e]; exact x2, by rw [pk_un e]; exact x3, fun i hi => by rw [hb _ (tr_row e h3 hi)]; exact x4 i hi⟩
    · have e : q ≠ to := by omega
      obtain ⟨x1, x2, x3, x4⟩ := h2 q (by omega) hq2
      exact ⟨by rw [pk_un e]; exact x1, by rw [pk_un e]; exact x2, by rw [pk_un e]; exact x3, fun i hi => by rw [hb _ (tr_row e (h28 q hq2) hi)]; exact x4 i hi⟩
abbrev TrK : Type := Int32 → (Nat → Int32) → (Nat → Int32) → (Nat → Int32) → (Nat → Int32) → (Nat → Int32) → (Nat → Int32) → (Nat → Int32) → Prop
theorem tr_yMv {post : Int32 → SY → Prop} {J : TrK} {D : TrD} {to : Nat} (hto : to + 1 < 12) (h28 : D.1 + D.2.1 ≤ 28) (hD : tr_yr pa pb pc pd (to + 1) D)
    (k0 : ∀ a, (∀ i, i < D.1 + D.2.1 → a (to * 28 + i) = nI (D.2.2.2 i)) → (∀ p, p < to * 28 ∨ to * 28 + 28 ≤ p → a p = pa p) → J (nI (to + 1)) a (upd pb to (nI D.1)) (upd pc to (nI D.2.1)) (upd pd to D.2.2.1) pe pf pg) : ∃ n, wY_dropRule_37 post J (nI to) ya yb yc yd ye yf yg yh yi n 0 pa pb pc pd pe pf pg := by
  obtain ⟨d1, d2, d3, d4⟩ := hD
  have H : ∀ (n j : Nat) (a : Nat → Int32), 29 ≤ n + j → j ≤ 28 → (∀ i, i < j → a (to * 28 + i) = pa ((to + 1) * 28 + i)) → (∀ p, p < to * 28 ∨ to * 28 + 28 ≤ p → a p = pa p) →
      wY_dropRule_37 post J (nI to) ya yb yc yd ye yf yg yh yi n (nI j) a pb pc pd pe pf pg := by
    intro n
    induction n with
    | zero => intro j a b c; omega
    | succ n ih =>
      intro j a hn hj h1 h2
      have v1 : vp_in (nI to) 12 := vp_in_nI (by omega) (by decide)
      have v2 : vp_in (nI to + 1) 12 := by rw [nI_1]; exact vp_in_nI hto (by decide)
      have c2 : (nI to + 1).toNatClampNeg = to + 1 := by rw [nI_1, nI_clamp (by omega)]
      refine pk_le 28 j (fun h => ?_) (fun h => ⟨by rw [nI_1, tr_28]; exact vp_in_nI (by omega) (by decide), by rw [tr_28]; exact vp_in_nI (by omega) (by decide), ?_⟩)
      · rw [c2, nI_clamp (show to < 2 ^ 31 by omega), d1, d2, d3]
        refine ⟨v2, v1, nm_e ⟨v2, v1, nm_e ⟨v2, v1, nm_e (nm_r (nI_1 to) (k0 a (fun i hi => ?_) h2))⟩⟩⟩
        rw [h1 i (by omega)]
        exact d4 i hi
      · rw [nI_1, tr_28, tr_28, nI_clamp (by omega), nI_clamp (by omega), h2 _ (by omega)]
        refine nm_e (nm_r (nI_1 j) (ih (j + 1) _ (by omega) (by omega) (fun i hi => ?_) (fun p hp => ?_)))
        · by_cases z : i = j
          · subst z; exact pk_us
          · rw [pk_un (by omega)]; exact h1 i (by omega)
        · rw [pk_un (by omega)]; exact h2 p hp
  exact ⟨29, H 29 0 pa (by omega) (Nat.zero_le _) (fun i hi => absurd hi (Nat.not_lt_zero _)) (fun p _ => rfl)⟩
theorem tr_yDr {post : Int32 → SY → Prop} {R : Nat → TrD} {rc r : Nat} (hrc : rc < 12) (hr : r ≤ rc) (h28 : ∀ q, q < rc + 1 → (R q).1 + (R q).2.1 ≤ 28)
    (k0 : ∀ pa pb pc pd, (∀ q, q < rc → tr_yr pa pb pc pd q (tr_sh R r q)) → post 0 (ya, yb, nI rc, yd, ye, yf, yg, yh, yi, pa, pb, pc, pd, pe, pf, pg)) : ∀ (n to : Nat) (pa pb pc pd : Nat → Int32), rc + 1 ≤ n + to → r ≤ to → to ≤ rc → (∀ q, q < to → tr_yr pa pb pc pd q (tr_sh R r q)) → (∀ q, to ≤ q → q < rc + 1 → tr_yr pa pb pc pd q (R q)) →
    wY_dropRule_25 post ya yb (nI (rc + 1)) yd ye yf yg yh yi n (nI to) pa pb pc pd pe pf pg := by
  intro n
  induction n with
  | zero => intro to pa pb pc pd a b c; omega
  | succ n ih =>
    intro to pa pb pc pd hn hrt hto h1 h2
    refine pk_le (rc + 1) (to + 1) (fun h => nm_r (nI_pred rc) (k0 _ _ _ _ fun q hq => h1 q (by omega))) (fun h => ?_) (hy := nI_1 to)
    refine tr_yMv (D := R (to + 1)) (by omega) (h28 _ (by omega)) (h2 _ (by omega) (by omega)) (fun a ha hb => ?_)
    refine ih (to + 1) _ _ _ _ (by omega) (by omega) (by omega) (fun q hq => ?_) (fun q hq hq2 => ?_)
    · by_cases e : q = to
      · subst e
        rw [tr_sh_g (by omega)]
        exact ⟨pk_us, pk_us, pk_us, ha⟩
      · obtain ⟨x1, x2, x3, x4⟩ := h1 q (by omega)
        have h3 : (tr_sh R r q).1 + (tr_sh R r q).2.1 ≤ 28 := by
          unfold tr_sh
          split
          · exact h28 q (by omega)
          · exact h28 (q + 1) (by omega)
        exact ⟨by rw [pk_un e]; exact x1, by rw [pk_un e]; exact x2, by rw [pk_un e]; exact x3, fun i hi => by rw [hb _ (tr_row e h3 hi)]; exact x4 i hi⟩
    · have e : q ≠ to := by omega
      obtain ⟨x1, x2, x3, x4⟩ := h2 q (by omega) hq2
      exact ⟨by rw [pk_un e]; exact x1, by rw [pk_un e]; exact x2, by rw [pk_un e]; exact x3, fun i hi => by rw [hb _ (tr_row e (h28 q hq2) hi)]; exact x4 i hi⟩
theorem i_vc_dropRule {k : Nat} {u : SX} {v : SY} (I : i_Rel k u v) (hk : k + 3 ≤ 1538) (v1 : Int32) : wpX_dropRule (fun r u' => wpY_dropRule (fun r' v' => r' = r ∧ i_Rel (k + 3) u' v') v v1) u v1 := by
  have J := i_up I
  obtain ⟨RL, TL, rc, s, md, R, T, sc, xg, xh, xi, yg, yh, yi, qa, qb, qc, qd, qe, qf, qg, qh, qi, pa, pb, pc, pd, pe, pf, pg, rfl, rfl, h⟩ := I
  obtain ⟨b1, b2, b3, b4, b5, b6, b7⟩ := h.1
  by_cases h0 : md = 0
  · subst h0
    rcases pk_ix v1 (n := rc) (by omega) with z | z | ⟨r, hr, rfl⟩
    · exact br_t rfl (br_t z (br_t rfl (br_t z ⟨rfl, J⟩)))
    · have z0 := tr_ge0 (by omega) z
      have z1 : ¬ v1 < nI rc := Int32.not_lt.mpr z
      exact br_t rfl (br_f z0 (br_f z1 (br_t rfl (br_f z0 (br_f z1 ⟨rfl, J⟩)))))
    · obtain ⟨c, rfl⟩ : ∃ c, rc = c + 1 := ⟨rc - 1, by omega⟩
      have z0 : ¬ nI r < 0 := nI_pos (by omega)
      have z1 : nI r < nI (c + 1) := nI_lt hr (by omega)
      have h28 : ∀ q, q < c + 1 → (R q).1 + (R q).2.1 ≤ 28 := fun q hq => by
        have o := (h.2.1 q hq).1
        have o1 := o.1
        have o2 := o.2.1
        omega
      refine br_t rfl (br_f z0 (br_t z1 ⟨c + 2, tr_xDr (R := R) (r := r) (by omega) (by omega) h28 (fun qa2 qb2 qc2 qd2 hX => ?_) (c + 2) r qa qb qc qd (by omega) (Nat.le_refl _) (by omega) (fun q hq => ?_) (fun q _ hq => (h.2.1 q hq).2.1)⟩))
      · refine br_t rfl (br_f z0 (br_t z1 ⟨c + 2, tr_yDr (R := R) (r := r) (by omega) (by omega) h28 (fun pa2 pb2 pc2 pd2 hY => ⟨rfl, tr_mk (md := 0) (R := tr_sh R r) (T := T) ?_⟩) (c + 2) r pa pb pc pd (by omega) (Nat.le_refl _) (by omega) (fun q hq => ?_) (fun q _ hq => (h.2.1 q hq).2.2)⟩))
        · rw [tr_sh_l hq]
          exact (h.2.1 q (by omega)).2.2
        · refine ⟨⟨b1, b2, b3, b4, by omega, b6, b7⟩, fun q hq => ⟨?_, hX q hq, hY q hq⟩, h.2.2.1, Or.inl rfl⟩
          unfold tr_sh
          split
          · exact (h.2.1 q (by omega)).1
          · exact (h.2.1 (q + 1) (by omega)).1
      · rw [tr_sh_l hq]
        exact (h.2.1 q (by omega)).2.1
  · have h0' := nI_ne0 (n := md) (by omega) (by omega)
    exact br_f h0' (br_f h0' ⟨rfl, J⟩)
end TRL
