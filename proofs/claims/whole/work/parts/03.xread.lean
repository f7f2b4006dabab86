section TRC
variable {xa xb xc xd xe xf xg xh xi ya yb yc yd ye yf yg yh yi : Int32} {qa qb qc qd qe qf qg qh qi pa pb pc pd pe pf pg : Nat → Int32}
/-! the component's readers against the pure picture -/
/-- a term's cells -/
def tr_tm (a : Nat → Int32) (T : Nat → Nat) (s : Nat) : Prop := s ≤ 64 ∧ tr_la a T s ∧ ∀ j, j < s → T j < 16
/-- the rules' cells and left lengths -/
def tr_rl (a b : Nat → Int32) (R : Nat → TrD) (rc : Nat) : Prop := rc ≤ 12 ∧ ∀ q, q < rc → tr_ok (R q) ∧ b q = nI (R q).1 ∧ ∀ j, j < (R q).1 + (R q).2.1 → a (q * 28 + j) = nI ((R q).2.2.2 j)
theorem tr_ap_s {c T : Nat → Nat} {s i j : Nat} (h : tr_ap c T s i j) (hc : tr_cn c T s i j) : tr_ap c T s i (j + 1) := fun k hk => by
  by_cases e : k = j
  · subst e; exact hc
  · exact h k (by omega)
theorem tr_ap_0 {c T : Nat → Nat} {s i : Nat} : tr_ap c T s i 0 := fun _ h => absurd h (Nat.not_lt_zero _)
theorem tr_xE1 {post : Int32 → Prop} {T : Nat → Nat} {s i : Nat} (ht : tr_tm qe T s) : ∀ n o e : Nat, s + 1 ≤ n + e → i ≤ e → e ≤ s → o ≤ 1 + 2 * e → post (nI (tr_ex T (s - e) o e - i)) →
    wX_extentAt_4 post (nI i) xa xb xc (nI s) xe xf xg xh xi qa qb qc qd qe qf qg qh qi n (nI e) (nI o) := by
  obtain ⟨hs, hT, h16⟩ := ht
  intro n
  induction n with
  | zero => intro o e h1 h2 h3; omega
  | succ n ih =>
    intro o e h1 h2 h3 h4 hp
    refine pk_le o 0 (fun h5 => ?_) (fun h5 => pk_le s e (fun h6 => ?_) (fun h6 => ⟨vp_in_nI (by omega) (by decide), by decide, nm_r (e' := nI (o - 1 + T e / 4)) ?_ (nm_r (nI_1 e) ?_)⟩))
    · have e0 : o = 0 := by omega
      subst e0
      rw [tr_ex0] at hp
      rw [pk_sub h2]
      exact hp
    · have e0 : s - e = 0 := by omega
      rw [e0] at hp
      rw [pk_sub h2]
      exact hp
    · have := h16 e h6
      rw [nI_clamp (by omega), hT e h6, tr_div4 (by omega), tr_op1 (by omega)]
    · have := h16 e h6
      refine ih _ _ (by omega) (by omega) (by omega) (by omega) ?_
      rw [show s - e = (s - (e + 1)) + 1 by omega, tr_exS (by omega)] at hp
      exact hp
theorem tr_xE {post : Int32 → Prop} {T : Nat → Nat} {s i : Nat} (ht : tr_tm qe T s) (hi : i ≤ s) (hp : post (nI (tr_E T s i))) : wpX_extentAt post (xa, xb, xc, nI s, xe, xf, xg, xh, xi, qa, qb, qc, qd, qe, qf, qg, qh, qi) (nI i) :=
  ⟨s + 1, tr_xE1 ht (s + 1) 1 i (by omega) (Nat.le_refl _) hi (by omega) hp⟩
theorem tr_xA1 {post : Int32 → Prop} {c T : Nat → Nat} {s i l r : Nat} (ht : tr_tm qe T s) (hr : r < 12) (hl : l ≤ 12) (hL : qb r = nI l) (hC : ∀ j, j < l → qa (r * 28 + j) = nI (c j)) (h24 : ∀ j, j < l → c j < 24)
    (h1 : tr_ap c T s i l → post 1) (h0 : ¬ tr_ap c T s i l → post 0) : ∀ n j : Nat, l + 1 ≤ n + j → j ≤ l → tr_ap c T s i j → tr_ps c T s i j ≤ s →
    wX_applies_11 post (nI r) (nI (r * 28)) xa xb xc (nI s) xe xf xg xh xi qa qb qc qd qe qf qg qh qi n (nI (tr_ps c T s i j)) (nI j) := by
  have hs := ht.1
  intro n
  induction n with
  | zero => intro j a b; omega
  | succ n ih =>
    intro j hn hj ha hq
    refine ⟨vp_in_nI hr (by decide), ?_⟩
    have eL : qb (nI r).toNatClampNeg = nI l := by rw [nI_clamp (by omega)]; exact hL
    rw [eL]
    refine pk_le l j (fun h => ?_) (fun h => ⟨by rw [nI_add]; exact vp_in_nI (by omega) (by decide), nm_r (e' := nI (c j)) (by rw [nI_add, nI_clamp (by omega)]; exact hC j h) ?_⟩)
    · have e : j = l := by omega
      subst e
      exact h1 ha
    · have hc := h24 j h
      refine pk_lt (tr_ps c T s i j) s (fun h2 => pk_lt (c j) 16 (fun h3 => ⟨vp_in_nI (by omega) (by decide), ?_⟩) (fun h3 => ?_)) (fun h2 => h0 fun z => ?_)
      · have e3 : qe (nI (tr_ps c T s i j)).toNatClampNeg = nI (T (tr_ps c T s i j)) := by rw [nI_clamp (by omega)]; exact ht.2.1 _ h2
        have ht16 := ht.2.2 _ h2
        rw [e3]
        refine pk_eq (c j) (T (tr_ps c T s i j)) (fun h4 => nm_r (nI_1 _) (nm_r (nI_1 _) ?_)) (fun h4 => h0 fun z => h4 ((z j h).2 h3).symm)
        rw [← tr_ps_s h3]
        exact ih (j + 1) (by omega) (by omega) (tr_ap_s ha ⟨h2, fun _ => h4.symm⟩) (tr_ps_le h2)
      · refine tr_xE ht (by omega) (nm_r (nI_add _ _) (nm_r (nI_1 _) ?_))
        rw [← tr_ps_v (by omega)]
        exact ih (j + 1) (by omega) (by omega) (tr_ap_s ha ⟨h2, fun z => absurd z (by omega)⟩) (tr_ps_le h2)
      · have := (z j h).1
        omega
theorem tr_xA {post : Int32 → Prop} {T : Nat → Nat} {s i rc r : Nat} {R : Nat → TrD} (ht : tr_tm qe T s) (hR : tr_rl qa qb R rc) (hr : r < rc) (hi : i ≤ s)
    (h1 : tr_ap (R r).2.2.2 T s i (R r).1 → post 1) (h0 : ¬ tr_ap (R r).2.2.2 T s i (R r).1 → post 0) : wpX_applies post (xa, xb, xc, nI s, xe, xf, xg, xh, xi, qa, qb, qc, qd, qe, qf, qg, qh, qi) (nI r) (nI i) := by
  obtain ⟨hrc, hR⟩ := hR
  obtain ⟨ok, hL, hC⟩ := hR r hr
  exact nm_r (tr_m28 r) ⟨(R r).1 + 1, tr_xA1 ht (by omega) ok.1 hL (fun j hj => hC j (by omega)) (fun j hj => ok.2.2.1 j (by omega)) h1 h0 ((R r).1 + 1) 0 (by omega) (Nat.zero_le _) tr_ap_0 hi⟩
theorem tr_xR1 {post : Int32 → Prop} {T : Nat → Nat} {s i rc : Nat} {R : Nat → TrD} (ht : tr_tm qe T s) (hR : tr_rl qa qb R rc) (hi : i ≤ s) : ∀ n r : Nat, rc + 1 ≤ n + r → r ≤ rc →
    post (tr_oi (tr_fr (fun r => tr_ap (R r).2.2.2 T s i (R r).1) (rc - r) r)) → wX_ruleAt_16 post (nI i) xa xb (nI rc) (nI s) xe xf xg xh xi qa qb qc qd qe qf qg qh qi n (nI r) := by
  have hrc := hR.1
  intro n
  induction n with
  | zero => intro r a b; omega
  | succ n ih =>
    intro r hn hr hp
    refine pk_le rc r (fun h => ?_) (fun h => ?_)
    · rw [show rc - r = 0 by omega] at hp
      exact hp
    · rw [show rc - r = (rc - (r + 1)) + 1 by omega] at hp
      refine tr_xA ht hR h hi (fun ha => br_f (by decide) ?_) (fun ha => br_t rfl (nm_r (nI_1 r) ?_))
      · rw [tr_fr_t (p := fun r => tr_ap (R r).2.2.2 T s i (R r).1) (r := r) ha] at hp
        exact hp
      · rw [tr_fr_f (p := fun r => tr_ap (R r).2.2.2 T s i (R r).1) (r := r) ha] at hp
        exact ih (r + 1) (by omega) (by omega) hp
theorem tr_xR {post : Int32 → Prop} {T : Nat → Nat} {s i rc : Nat} {R : Nat → TrD} (ht : tr_tm qe T s) (hR : tr_rl qa qb R rc) (hi : i < s) (hp : post (tr_oi (tr_ra R rc T s i))) :
    wpX_ruleAt post (xa, xb, nI rc, nI s, xe, xf, xg, xh, xi, qa, qb, qc, qd, qe, qf, qg, qh, qi) (nI i) := by
  have hs := ht.1
  exact br_f (nI_pos (by omega)) (br_t (nI_lt hi (by omega)) ⟨rc + 1, tr_xR1 ht hR (by omega) (rc + 1) 0 (by omega) (Nat.zero_le _) hp⟩)
def tr_dn : Nat → Int32
  | 0 => -1
  | k + 1 => nI k
theorem tr_dn_m (k : Nat) : nI k + (-1) = tr_dn k := by
  cases k with
  | zero => decide
  | succ k => exact pk_m1 k
theorem tr_dn_s (k : Nat) : nI k - 1 = tr_dn k := by
  cases k with
  | zero => decide
  | succ k => exact nI_pred k
theorem tr_ra_lt {R : Nat → TrD} {rc s i r : Nat} {T : Nat → Nat} (h : tr_ra R rc T s i = some r) : r < rc := by
  have := tr_fr_some _ _ h
  omega
theorem tr_xN1 {post : Int32 → Prop} {T : Nat → Nat} {s rc : Nat} {R : Nat → TrD} (ht : tr_tm qe T s) (hR : tr_rl qa qb R rc) (hp : post (tr_oi (tr_nx R rc T s))) : ∀ k n : Nat, k ≤ s → k + 1 ≤ n →
    wX_nextRedex_14 post xa xb (nI rc) (nI s) xe xf xg xh xi qa qb qc qd qe qf qg qh qi n (tr_oi (tr_fr (tr_in (tr_rd R rc T s) T s) (s - k) k)) (nI (tr_nr (tr_rd R rc T s) s k)) (tr_dn k) := by
  have hs := ht.1
  have hrc := hR.1
  intro k
  induction k with
  | zero =>
    intro n _ hn
    obtain ⟨m, rfl⟩ : ∃ m, n = m + 1 := ⟨n - 1, by omega⟩
    exact br_t (by decide) hp
  | succ k ih =>
    intro n hk hn
    obtain ⟨m, rfl⟩ : ∃ m, n = m + 1 := ⟨n - 1, by omega⟩
    have H := ih m (by omega) (by omega)
    rw [show s - k = (s - (k + 1)) + 1 by omega] at H
    refine br_f (nI_pos (by omega)) (tr_xR ht hR hk ?_)
    cases hra : tr_ra R rc T s k with
    | none =>
      have hn0 : ¬ tr_rd R rc T s k := fun z => z hra
      rw [tr_fr_f (fun z => hn0 z.1), tr_nr_f hk hn0] at H
      rw [tr_oi_n]
      exact br_t (by decide) (nm_r (tr_dn_m k) H)
    | some r =>
      have hrd : tr_rd R rc T s k := fun z => by rw [hra] at z; exact nomatch z
      have hr := tr_ra_lt hra
      have hE := tr_E_le T (show k ≤ s by omega)
      have hN := tr_nr_le (p := tr_rd R rc T s) hk
      rw [tr_nr_t hk hrd] at H
      rw [tr_oi_s]
      refine br_f (nI_pos (by omega)) (tr_xE ht (by omega) (pk_lt (tr_nr (tr_rd R rc T s) s (k + 1)) (k + tr_E T s k) (fun h => nm_r (tr_dn_m k) ?_) (fun h => nm_r (tr_dn_m k) ?_) (hy := nI_add _ _)))
      · rw [tr_fr_f (fun z => by have := z.2; omega)] at H
        exact H
      · rw [tr_fr_t ⟨hrd, h⟩] at H
        exact H
theorem tr_xN {post : Int32 → Prop} {T : Nat → Nat} {s rc : Nat} {R : Nat → TrD} (ht : tr_tm qe T s) (hR : tr_rl qa qb R rc) (hp : post (tr_oi (tr_nx R rc T s))) : wpX_nextRedex post (xa, xb, nI rc, nI s, xe, xf, xg, xh, xi, qa, qb, qc, qd, qe, qf, qg, qh, qi) := by
  have H := tr_xN1 (xa := xa) (xb := xb) (xe := xe) (xf := xf) (xg := xg) (xh := xh) (xi := xi) (qc := qc) (qd := qd) (qf := qf) (qg := qg) (qh := qh) (qi := qi) ht hR hp s (s + 1) (Nat.le_refl _) (Nat.le_refl _)
  rw [Nat.sub_self, tr_nr_s] at H
  exact nm_r (tr_dn_s s) ⟨s + 1, H⟩
end TRC
