section TRH
variable {xa xb xc xd xe xf xg xh xi ya yb yc yd ye yf yg yh yi : Int32} {qa qb qc qd qe qf qg qh qi pa pb pc pd pe pf pg : Nat → Int32}
/-! the small methods -/
theorem i_vc_mode {k : Nat} {u : SX} {v : SY} (I : i_Rel k u v) (hk : k + 3 ≤ 1538) : wpX_mode (fun r => wpY_mode (fun r' => r' = r ∧ i_Rel (k + 3) u v) v) u := by
  have J := i_up I
  obtain ⟨RL, TL, rc, s, md, R, T, sc, xg, xh, xi, yg, yh, yi, qa, qb, qc, qd, qe, qf, qg, qh, qi, pa, pb, pc, pd, pe, pf, pg, rfl, rfl, h⟩ := I
  exact ⟨rfl, J⟩
theorem i_vc_rules {k : Nat} {u : SX} {v : SY} (I : i_Rel k u v) (hk : k + 3 ≤ 1538) : wpX_rules (fun r => wpY_rules (fun r' => r' = r ∧ i_Rel (k + 3) u v) v) u := by
  have J := i_up I
  obtain ⟨RL, TL, rc, s, md, R, T, sc, xg, xh, xi, yg, yh, yi, qa, qb, qc, qd, qe, qf, qg, qh, qi, pa, pb, pc, pd, pe, pf, pg, rfl, rfl, h⟩ := I
  exact ⟨rfl, J⟩
theorem i_vc_size {k : Nat} {u : SX} {v : SY} (I : i_Rel k u v) (hk : k + 3 ≤ 1538) : wpX_size (fun r => wpY_size (fun r' => r' = r ∧ i_Rel (k + 3) u v) v) u := by
  have J := i_up I
  obtain ⟨RL, TL, rc, s, md, R, T, sc, xg, xh, xi, yg, yh, yi, qa, qb, qc, qd, qe, qf, qg, qh, qi, pa, pb, pc, pd, pe, pf, pg, rfl, rfl, h⟩ := I
  exact ⟨rfl, J⟩
theorem i_vc_steps {k : Nat} {u : SX} {v : SY} (I : i_Rel k u v) (hk : k + 3 ≤ 1538) : wpX_steps (fun r => wpY_steps (fun r' => r' = r ∧ i_Rel (k + 3) u v) v) u := by
  have J := i_up I
  obtain ⟨RL, TL, rc, s, md, R, T, sc, xg, xh, xi, yg, yh, yi, qa, qb, qc, qd, qe, qf, qg, qh, qi, pa, pb, pc, pd, pe, pf, pg, rfl, rfl, h⟩ := I
  exact ⟨rfl, J⟩
theorem tr_ge0 {x : Int32} {n : Nat} (hn : n < 2 ^ 31) (h : nI n ≤ x) : ¬ x < 0 := Int32.not_lt.mpr (Int32.le_trans (nI_pos' hn) h)
theorem i_vc_symbolAt {k : Nat} {u : SX} {v : SY} (I : i_Rel k u v) (hk : k + 3 ≤ 1538) (v1 : Int32) : wpX_symbolAt (fun r => wpY_symbolAt (fun r' => r' = r ∧ i_Rel (k + 3) u v) v v1) u v1 := by
  have J := i_up I
  obtain ⟨RL, TL, rc, s, md, R, T, sc, xg, xh, xi, yg, yh, yi, qa, qb, qc, qd, qe, qf, qg, qh, qi, pa, pb, pc, pd, pe, pf, pg, rfl, rfl, h⟩ := I
  have hb := h.1
  rcases pk_ix v1 (n := s) (by omega) with z | z | ⟨j, hj, rfl⟩
  · exact br_t z (br_t z ⟨rfl, J⟩)
  · have z0 := tr_ge0 (by omega) z
    exact br_f z0 (br_t z (br_f z0 (br_f (Int32.not_lt.mpr z) ⟨rfl, J⟩)))
  · have e : pe (nI j).toNatClampNeg = qe (nI j).toNatClampNeg := by rw [nI_clamp (by omega), h.2.2.1.1 j hj, h.2.2.1.2.1 j hj]
    have z0 := nI_pos (n := j) (by omega)
    exact br_f z0 (br_f (nI_ge hj (by omega)) ⟨vp_in_nI (by omega) (by decide), br_f z0 (br_t (nI_lt hj (by omega)) ⟨vp_in_nI (by omega) (by decide), e, J⟩)⟩)
theorem i_vc_used {k : Nat} {u : SX} {v : SY} (I : i_Rel k u v) (hk : k + 3 ≤ 1538) (v1 : Int32) : wpX_used (fun r => wpY_used (fun r' => r' = r ∧ i_Rel (k + 3) u v) v v1) u v1 := by
  have J := i_up I
  obtain ⟨RL, TL, rc, s, md, R, T, sc, xg, xh, xi, yg, yh, yi, qa, qb, qc, qd, qe, qf, qg, qh, qi, pa, pb, pc, pd, pe, pf, pg, rfl, rfl, h⟩ := I
  have hb := h.1
  rcases pk_ix v1 (n := rc) (by omega) with z | z | ⟨j, hj, rfl⟩
  · exact br_t z (br_t z ⟨rfl, J⟩)
  · have z0 := tr_ge0 (by omega) z
    exact br_f z0 (br_t z (br_f z0 (br_f (Int32.not_lt.mpr z) ⟨rfl, J⟩)))
  · have e : pd (nI j).toNatClampNeg = qd (nI j).toNatClampNeg := by rw [nI_clamp (by omega), (h.2.1 j hj).2.1.2.2.1, (h.2.1 j hj).2.2.2.2.1]
    have z0 := nI_pos (n := j) (by omega)
    exact br_f z0 (br_f (nI_ge hj (by omega)) ⟨vp_in_nI (by omega) (by decide), br_f z0 (br_t (nI_lt hj (by omega)) ⟨vp_in_nI (by omega) (by decide), e, J⟩)⟩)
theorem i_vc_ruleAt {k : Nat} {u : SX} {v : SY} (I : i_Rel k u v) (hk : k + 3 ≤ 1538) (v1 : Int32) : wpX_ruleAt (fun r => wpY_ruleAt (fun r' => r' = r ∧ i_Rel (k + 3) u v) v v1) u v1 := by
  have J := i_up I
  obtain ⟨RL, TL, rc, s, md, R, T, sc, xg, xh, xi, yg, yh, yi, qa, qb, qc, qd, qe, qf, qg, qh, qi, pa, pb, pc, pd, pe, pf, pg, rfl, rfl, h⟩ := I
  have hb := h.1
  have ht := tr_ixt h
  have hR := tr_ixr h
  rcases pk_ix v1 (n := s) (by omega) with z | z | ⟨j, hj, rfl⟩
  · exact br_t z (br_t z ⟨rfl, J⟩)
  · have z0 := tr_ge0 (by omega) z
    exact br_f z0 (br_f (Int32.not_lt.mpr z) (br_f z0 (br_f (Int32.not_lt.mpr z) ⟨rfl, J⟩)))
  · exact tr_xR ht.1 hR.1 hj (tr_yR ht.2 hR.2 hj ⟨rfl, J⟩)
theorem i_vc_nextRedex {k : Nat} {u : SX} {v : SY} (I : i_Rel k u v) (hk : k + 3 ≤ 1538) : wpX_nextRedex (fun r => wpY_nextRedex (fun r' => r' = r ∧ i_Rel (k + 3) u v) v) u := by
  have J := i_up I
  obtain ⟨RL, TL, rc, s, md, R, T, sc, xg, xh, xi, yg, yh, yi, qa, qb, qc, qd, qe, qf, qg, qh, qi, pa, pb, pc, pd, pe, pf, pg, rfl, rfl, h⟩ := I
  have ht := tr_ixt h
  have hR := tr_ixr h
  exact tr_xN ht.1 hR.1 (tr_yN ht.2 hR.2 ⟨rfl, J⟩)
theorem tr_i0 {RL TL rc s md : Nat} {R : Nat → TrD} {T : Nat → Nat} (h : tr_inv RL TL rc s md R T xg xh xi yg yh yi qa qb qc qd qe qf pa pb pc pd pe pf) {xg xh xi yg yh yi : Int32} {qf pf : Nat → Int32} : tr_inv RL TL rc s 0 R T xg xh xi yg yh yi qa qb qc qd qe qf pa pb pc pd pe pf :=
  ⟨by have := h.1; omega, h.2.1, h.2.2.1, Or.inl rfl⟩
theorem tr_i1 {RL TL rc s md : Nat} {R : Nat → TrD} {T : Nat → Nat} (h : tr_inv RL TL rc s md R T xg xh xi yg yh yi qa qb qc qd qe qf pa pb pc pd pe pf) (hr : rc ≠ RL) {yi : Int32} : tr_inv RL TL rc s 1 R T 0 0 1 0 1 yi qa qb qc qd qe qf pa pb pc pd pe pf :=
  ⟨by have := h.1; omega, h.2.1, h.2.2.1, Or.inr ⟨0, 1, 0, fun _ => 0, rfl, rfl, rfl, rfl, rfl, Nat.le_refl _, fun j z => absurd z (Nat.not_lt_zero _), fun j z => absurd z (Nat.not_lt_zero _), Or.inr (by have := h.1; omega), Or.inl ⟨rfl, rfl, by decide, fun j z => absurd z (Nat.not_lt_zero _), fun j k z => absurd z (Nat.not_lt_zero _)⟩⟩⟩
theorem tr_i3 {RL TL rc s md : Nat} {R : Nat → TrD} {T : Nat → Nat} (h : tr_inv RL TL rc s md R T xg xh xi yg yh yi qa qb qc qd qe qf pa pb pc pd pe pf) {yi : Int32} : tr_inv RL TL rc s 3 R T 0 0 1 0 1 yi qa qb qc qd qe qf pa pb pc pd pe pf :=
  ⟨by have := h.1; omega, h.2.1, h.2.2.1, Or.inr ⟨0, 1, 0, fun _ => 0, rfl, rfl, rfl, rfl, rfl, Nat.le_refl _, fun j z => absurd z (Nat.not_lt_zero _), fun j z => absurd z (Nat.not_lt_zero _), Or.inl rfl, Or.inr (Or.inr ⟨rfl, rfl, by have := h.1; omega, fun j z => absurd z (Nat.not_lt_zero _)⟩)⟩⟩
theorem i_vc_beginRule {k : Nat} {u : SX} {v : SY} (I : i_Rel k u v) (hk : k + 3 ≤ 1538) : wpX_beginRule (fun r u' => wpY_beginRule (fun r' v' => r' = r ∧ i_Rel (k + 3) u' v') v) u := by
  have J := i_up I
  obtain ⟨RL, TL, rc, s, md, R, T, sc, xg, xh, xi, yg, yh, yi, qa, qb, qc, qd, qe, qf, qg, qh, qi, pa, pb, pc, pd, pe, pf, pg, rfl, rfl, h⟩ := I
  have hb := h.1
  unfold wpX_beginRule wpX_openEntry
  refine pk_eq md 0 (fun h0 => pk_eq rc RL (fun h1 => ?_) (fun h1 => ?_)) (fun h0 => ?_)
  · exact pk_eq md 0 (fun _ => pk_eq rc RL (fun _ => ⟨rfl, J⟩) (fun z => absurd h1 z)) (fun z => absurd h0 z)
  · refine pk_eq md 0 (fun _ => pk_eq rc RL (fun z => absurd z h1) (fun _ => ?_)) (fun z => absurd h0 z)
    exact ⟨rfl, tr_mk (md := 1) (tr_i1 h h1)⟩
  · exact pk_eq md 0 (fun z => absurd z h0) (fun _ => ⟨rfl, J⟩)
theorem i_vc_beginTerm {k : Nat} {u : SX} {v : SY} (I : i_Rel k u v) (hk : k + 3 ≤ 1538) : wpX_beginTerm (fun r u' => wpY_beginTerm (fun r' v' => r' = r ∧ i_Rel (k + 3) u' v') v) u := by
  have J := i_up I
  obtain ⟨RL, TL, rc, s, md, R, T, sc, xg, xh, xi, yg, yh, yi, qa, qb, qc, qd, qe, qf, qg, qh, qi, pa, pb, pc, pd, pe, pf, pg, rfl, rfl, h⟩ := I
  have hb := h.1
  unfold wpX_beginTerm wpX_openEntry
  refine pk_eq md 0 (fun h0 => ?_) (fun h0 => ?_)
  · refine pk_eq md 0 (fun _ => ?_) (fun z => absurd h0 z)
    exact ⟨rfl, tr_mk (md := 3) (tr_i3 h)⟩
  · exact pk_eq md 0 (fun z => absurd z h0) (fun _ => ⟨rfl, J⟩)
theorem i_vc_cancel {k : Nat} {u : SX} {v : SY} (I : i_Rel k u v) (hk : k + 3 ≤ 1538) : wpX_cancel (fun r u' => wpY_cancel (fun r' v' => r' = r ∧ i_Rel (k + 3) u' v') v) u := by
  have J := i_up I
  obtain ⟨RL, TL, rc, s, md, R, T, sc, xg, xh, xi, yg, yh, yi, qa, qb, qc, qd, qe, qf, qg, qh, qi, pa, pb, pc, pd, pe, pf, pg, rfl, rfl, h⟩ := I
  have hb := h.1
  refine pk_eq md 0 (fun h0 => ?_) (fun h0 => ?_)
  · exact pk_eq md 0 (fun _ => ⟨rfl, J⟩) (fun z => absurd h0 z)
  · exact pk_eq md 0 (fun z => absurd z h0) (fun _ => ⟨rfl, tr_mk (md := 0) (tr_i0 h)⟩)
theorem tr_m1 {x : Int32} (h1 : ¬ x < -1) (h2 : x < 0) : x = -1 := by
  rw [Int32.lt_iff_toInt_lt] at h1 h2
  rw [show (-1 : Int32).toInt = -1 from by decide] at h1
  rw [show (0 : Int32).toInt = 0 from by decide] at h2
  refine Int32.toInt_inj.mp ?_
  rw [show (-1 : Int32).toInt = -1 from by decide]
  omega
theorem tr_m1g {n : Nat} (h : n < 2 ^ 31) : ¬ nI n < -1 := fun z => nI_pos h (Int32.lt_trans z (by decide))
theorem tr_m1h {n : Nat} (h : n < 2 ^ 31) : ¬ nI n ≤ -1 := fun z => absurd (Int32.le_trans (nI_pos' h) z) (by decide)
theorem tr_y75 {post : Int32 → Prop} {c p : Nat} {en : Nat → Nat} (hc : c ≤ 64) (hf : tr_la pf en c) (h1 : p < c → post (nI (en p))) (h0 : c ≤ p → post (-1)) (hp : p < 2 ^ 31) : wY_cell_75 post (-1) (nI p) (nI c) ya yb yc yd ye yf yg yh yi pa pb pc pd pe pf pg :=
  pk_lt p c (fun h => br_t (by decide) ⟨vp_in_nI (by omega) (by decide), by rw [nI_clamp hp, hf p h]; exact h1 h⟩) h0
theorem tr_cell {RL TL rc s md : Nat} {R : Nat → TrD} {T : Nat → Nat} {sc : Int32} (h : tr_inv RL TL rc s md R T xg xh xi yg yh yi qa qb qc qd qe qf pa pb pc pd pe pf) (v1 v2 : Int32) : ∃ a : Int32,
    (∀ post : Int32 → Prop, post a → wpX_cell post (nI RL, nI TL, nI rc, nI s, sc, nI md, xg, xh, xi, qa, qb, qc, qd, qe, qf, qg, qh, qi) v1 v2) ∧ (∀ post : Int32 → Prop, post a → wpY_cell post (nI RL, nI TL, nI rc, nI s, sc, nI md, yg, yh, yi, pa, pb, pc, pd, pe, pf, pg) v1 v2) := by
  have hb := h.1
  by_cases hA : v1 < -1
  · exact ⟨-1, fun post hp => br_t hA hp, fun post hp => br_t hA hp⟩
  rcases pk_ix v1 (n := rc) (by omega) with z | z | ⟨r, hr, rfl⟩
  · have e := tr_m1 hA z
    subst e
    have hB : ¬ nI rc ≤ -1 := tr_m1h (by omega)
    by_cases h0 : md = 0
    · subst h0
      by_cases h2 : 0 ≤ v2
      · exact ⟨-1, fun post hp => br_f hA (br_f hB (br_t h2 (br_t z (br_t rfl hp)))), fun post hp => br_f hA (br_f hB (br_t rfl (br_t rfl hp)))⟩
      · exact ⟨-1, fun post hp => br_f hA (br_f hB (br_f h2 hp)), fun post hp => br_f hA (br_f hB (br_t rfl (br_t rfl hp)))⟩
    · have h0' := nI_ne0 (n := md) (by omega) (by omega)
      by_cases h2 : 0 ≤ v2
      · obtain ⟨p, hp2, rfl⟩ := nI_of (x := v2) (Int32.not_lt.mpr h2)
        rcases h.2.2.2 with w | ⟨n, m, el, en, rfl, rfl, rfl, rfl, rfl, hm, hq, hf, -, he⟩
        · exact absurd w h0
        · have hbd : el + n ≤ 64 ∧ (md = 2 → yi = nI el) ∧ (¬ md = 2 → el = 0) := by
            rcases he with ⟨e1, e2, e3, -⟩ | ⟨e1, e2, e3, e4, -⟩ | ⟨e1, e2, e3, -⟩
            · exact ⟨by omega, fun z => by omega, fun _ => e2⟩
            · exact ⟨by omega, fun _ => e2, fun z => by omega⟩
            · exact ⟨by omega, fun z => by omega, fun _ => e2⟩
          have hY : ∀ post : Int32 → Prop, (p < el + n → post (nI (en p))) → (el + n ≤ p → post (-1)) → wpY_cell post (nI RL, nI TL, nI rc, nI s, sc, nI md, nI n, nI m, yi, pa, pb, pc, pd, pe, pf, pg) (-1) (nI p) := by
            intro post k1 k0
            refine br_f hA (br_f hB (br_t rfl (br_f h0' (br_t h2 (br_t z (pk_eq md 2 (fun w => ?_) (fun w => ?_)))))))
            · rw [hbd.2.1 w, nI_add]
              exact tr_y75 hbd.1 hf k1 k0 hp2
            · have e := hbd.2.2 w
              rw [e, Nat.zero_add] at hf k1 k0
              exact tr_y75 (by omega) hf k1 k0 hp2
          have hX : ∀ post : Int32 → Prop, (p < el + n → post (nI (en p))) → (el + n ≤ p → post (-1)) → wpX_cell post (nI RL, nI TL, nI rc, nI s, sc, nI md, nI (el + n), nI el, nI m, qa, qb, qc, qd, qe, qf, qg, qh, qi) (-1) (nI p) := by
            intro post k1 k0
            exact br_f hA (br_f hB (br_t h2 (br_t z (br_f h0' (pk_le (el + n) p k0 (fun w => ⟨vp_in_nI (by omega) (by decide), by rw [nI_clamp hp2, hq p w]; exact k1 w⟩))))))
          by_cases w : p < el + n
          · exact ⟨nI (en p), fun post hp => hX post (fun _ => hp) (fun q => absurd w (by omega)), fun post hp => hY post (fun _ => hp) (fun q => absurd w (by omega))⟩
          · exact ⟨-1, fun post hp => hX post (fun q => absurd q w) (fun _ => hp), fun post hp => hY post (fun q => absurd q w) (fun _ => hp)⟩
      · exact ⟨-1, fun post hp => br_f hA (br_f hB (br_f h2 hp)), fun post hp => br_f hA (br_f hB (br_t rfl (br_f h0' (br_f h2 hp))))⟩
  · exact ⟨-1, fun post hp => br_f hA (br_t z hp), fun post hp => br_f hA (br_t z hp)⟩
  · have hB : ¬ nI rc ≤ nI r := nI_ge hr (by omega)
    have hn : ¬ nI r < 0 := nI_pos (by omega)
    have h1 : ¬ nI r = -1 := tr_n1 (by omega)
    obtain ⟨ok, x4, y4⟩ := h.2.1 r hr
    by_cases h2 : 0 ≤ v2
    · obtain ⟨p, hp2, rfl⟩ := nI_of (x := v2) (Int32.not_lt.mpr h2)
      have o1 := ok.1
      have o2 := ok.2.1
      have eX : qc (nI r).toNatClampNeg = nI ((R r).1 + (R r).2.1) := by rw [nI_clamp (by omega)]; exact x4.2.1
      have eY : pb (nI r).toNatClampNeg + pc (nI r).toNatClampNeg = nI ((R r).1 + (R r).2.1) := by rw [nI_clamp (by omega), y4.1, y4.2.1, nI_add]
      by_cases w : p < (R r).1 + (R r).2.1
      · refine ⟨nI ((R r).2.2.2 p), fun post hp => br_f hA (br_f hB (br_t h2 (br_f hn ⟨vp_in_nI (by omega) (by decide), ?_⟩))), fun post hp => br_f hA (br_f hB (br_f h1 (br_t h2 (br_f hn ⟨vp_in_nI (by omega) (by decide), vp_in_nI (by omega) (by decide), ?_⟩))))⟩
        · rw [eX]
          refine pk_le ((R r).1 + (R r).2.1) p (fun q => absurd w (by omega)) (fun _ => ⟨by rw [tr_28]; exact vp_in_nI (by omega) (by decide), ?_⟩)
          rw [tr_28, nI_clamp (by omega), x4.2.2.2 p w]
          exact hp
        · rw [eY]
          refine pk_lt p ((R r).1 + (R r).2.1) (fun _ => br_f hn ⟨by rw [tr_28]; exact vp_in_nI (by omega) (by decide), ?_⟩) (fun q => absurd w (by omega))
          rw [tr_28, nI_clamp (by omega), y4.2.2.2 p w]
          exact hp
      · refine ⟨-1, fun post hp => br_f hA (br_f hB (br_t h2 (br_f hn ⟨vp_in_nI (by omega) (by decide), ?_⟩))), fun post hp => br_f hA (br_f hB (br_f h1 (br_t h2 (br_f hn ⟨vp_in_nI (by omega) (by decide), vp_in_nI (by omega) (by decide), ?_⟩))))⟩
        · rw [eX]
          exact pk_le ((R r).1 + (R r).2.1) p (fun _ => hp) (fun q => absurd q w)
        · rw [eY]
          exact pk_lt p ((R r).1 + (R r).2.1) (fun q => absurd q w) (fun _ => hp)
    · exact ⟨-1, fun post hp => br_f hA (br_f hB (br_f h2 hp)), fun post hp => br_f hA (br_f hB (br_f h1 (br_f h2 hp)))⟩
theorem i_vc_cell {k : Nat} {u : SX} {v : SY} (I : i_Rel k u v) (hk : k + 3 ≤ 1538) (v1 : Int32) (v2 : Int32) : wpX_cell (fun r => wpY_cell (fun r' => r' = r ∧ i_Rel (k + 3) u v) v v1 v2) u v1 v2 := by
  have J := i_up I
  obtain ⟨RL, TL, rc, s, md, R, T, sc, xg, xh, xi, yg, yh, yi, qa, qb, qc, qd, qe, qf, qg, qh, qi, pa, pb, pc, pd, pe, pf, pg, rfl, rfl, h⟩ := I
  obtain ⟨a, hX, hY⟩ := tr_cell (qg := qg) (qh := qh) (qi := qi) (pg := pg) (sc := sc) h v1 v2
  exact hX _ (hY _ ⟨rfl, J⟩)
end TRH
