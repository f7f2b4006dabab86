section TRD
variable {xa xb xc xd xe xf xg xh xi ya yb yc yd ye yf yg yh yi : Int32} {qa qb qc qd qe qf qg qh qi pa pb pc pd pe pf pg : Nat → Int32}
/-! the reference's readers against the same picture -/
theorem tr_yA {post : Int32 → Prop} {t : Nat} (ht : t < 16) (hp : post (nI (t / 4))) : wpY_arity post (ya, yb, yc, yd, ye, yf, yg, yh, yi, pa, pb, pc, pd, pe, pf, pg) (nI t) :=
  pk_le 16 t (fun h => absurd h (by omega)) (fun _ => ⟨by decide, by rw [tr_div4 (by omega)]; exact hp⟩)
theorem tr_yE1 {post : Int32 → Prop} {T : Nat → Nat} {s i : Nat} (ht : tr_tm pe T s) : ∀ n o e : Nat, s + 1 ≤ n + e → i ≤ e → e ≤ s → o ≤ 1 + 2 * e → post (nI (tr_ex T (s - e) o e - i)) →
    wY_extent_7 post (nI i) ya yb yc (nI s) ye yf yg yh yi pa pb pc pd pe pf pg n (nI o) (nI e) (nI e) := by
  obtain ⟨hs, hT, h16⟩ := ht
  intro n
  induction n with
  | zero => intro o e h1 h2 h3; omega
  | succ n ih =>
    intro o e h1 h2 h3 h4 hp
    refine br_f (nI_pos (by omega)) (pk_le s e (fun h6 => ?_) (fun h6 => pk_le o 0 (fun h5 => ?_) (fun h5 => ⟨vp_in_nI (by omega) (by decide), ?_⟩)))
    · have e0 : s - e = 0 := by omega
      rw [e0] at hp
      rw [pk_sub h2]
      exact hp
    · have e0 : o = 0 := by omega
      subst e0
      rw [tr_ex0] at hp
      rw [pk_sub h2]
      exact hp
    · have h7 := h16 e h6
      have e3 : pe (nI e).toNatClampNeg = nI (T e) := by rw [nI_clamp (by omega)]; exact hT e h6
      rw [e3]
      refine tr_yA h7 (nm_r (tr_op2 (by omega)) (nm_r (nI_1 e) (nm_r (nI_1 e) ?_)))
      refine ih _ _ (by omega) (by omega) (by omega) (by omega) ?_
      rw [show s - e = (s - (e + 1)) + 1 by omega, tr_exS (by omega)] at hp
      exact hp
theorem tr_yE {post : Int32 → Prop} {T : Nat → Nat} {s i : Nat} (ht : tr_tm pe T s) (hi : i ≤ s) (hp : post (nI (tr_E T s i))) : wpY_extent post (ya, yb, yc, nI s, ye, yf, yg, yh, yi, pa, pb, pc, pd, pe, pf, pg) (nI i) :=
  ⟨s + 1, tr_yE1 ht (s + 1) 1 i (by omega) (Nat.le_refl _) hi (by omega) hp⟩
theorem tr_yW1 {post : Int32 → Prop} {c T : Nat → Nat} {s i l r : Nat} {st : Int32} (ht : tr_tm pe T s) (hr : r < 12) (hl : l ≤ 12) (hL : pb r = nI l) (hC : ∀ j, j < l → pa (r * 28 + j) = nI (c j)) (h24 : ∀ j, j < l → c j < 24) :
    ∀ n j : Nat, l + 1 ≤ n + j → j ≤ l → tr_ps c T s i j ≤ s → post (tr_wr c T s i st (l - j) j) → wY_walk_6 post (nI r) st ya yb yc (nI s) ye yf yg yh yi pa pb pc pd pe pf pg n (nI (tr_ps c T s i j)) (nI j) := by
  have hs := ht.1
  intro n
  induction n with
  | zero => intro j a b; omega
  | succ n ih =>
    intro j hn hj hq hp
    refine ⟨vp_in_nI hr (by decide), ?_⟩
    have eL : pb (nI r).toNatClampNeg = nI l := by rw [nI_clamp (by omega)]; exact hL
    rw [eL]
    refine pk_le l j (fun h => ?_) (fun h => ⟨by rw [tr_28]; exact vp_in_nI (by omega) (by decide), nm_r (e' := nI (c j)) (by rw [tr_28, nI_clamp (by omega)]; exact hC j h) ?_⟩)
    · rw [show l - j = 0 by omega] at hp
      exact hp
    · have hc := h24 j h
      rw [show l - j = (l - (j + 1)) + 1 by omega] at hp
      by_cases hst : nI (c j) = st
      · rw [tr_wr_e hst] at hp
        exact br_t hst hp
      · refine br_f hst (br_f (nI_pos (by omega)) (pk_le s (tr_ps c T s i j) (fun h2 => ?_) (fun h2 => pk_le 16 (c j) (fun h3 => ?_) (fun h3 => ⟨vp_in_nI (by omega) (by decide), ?_⟩))))
        · rw [tr_wr_f hst (fun z => by have := z.1; omega)] at hp
          exact hp
        · rw [tr_wr_t hst ⟨h2, fun z => absurd z (by omega)⟩] at hp
          refine pk_le 16 (c j) (fun _ => tr_yE ht (by omega) (nm_r (nI_add _ _) (nm_r (nI_1 _) ?_))) (fun h4 => absurd h3 (by omega))
          rw [← tr_ps_v (by omega)]
          exact ih (j + 1) (by omega) (by omega) (tr_ps_le h2) hp
        · have e3 : pe (nI (tr_ps c T s i j)).toNatClampNeg = nI (T (tr_ps c T s i j)) := by rw [nI_clamp (by omega)]; exact ht.2.1 _ h2
          have ht16 := ht.2.2 _ h2
          rw [e3]
          refine pk_eq (T (tr_ps c T s i j)) (c j) (fun h4 => pk_le 16 (c j) (fun h5 => absurd h3 (by omega)) (fun _ => nm_r (nI_1 _) (nm_r (nI_1 _) ?_))) (fun h4 => ?_)
          · rw [tr_wr_t hst ⟨h2, fun _ => h4⟩] at hp
            rw [← tr_ps_s h3]
            exact ih (j + 1) (by omega) (by omega) (tr_ps_le h2) hp
          · rw [tr_wr_f hst (fun z => h4 (z.2 h3))] at hp
            exact hp
theorem tr_yW {post : Int32 → Prop} {T : Nat → Nat} {s i rc r : Nat} {R : Nat → TrD} {st : Int32} (ht : tr_tm pe T s) (hR : tr_rl pa pb R rc) (hr : r < rc) (hi : i ≤ s)
    (hp : post (tr_wr (R r).2.2.2 T s i st (R r).1 0)) : wpY_walk post (ya, yb, yc, nI s, ye, yf, yg, yh, yi, pa, pb, pc, pd, pe, pf, pg) (nI r) (nI i) st := by
  obtain ⟨hrc, hR⟩ := hR
  obtain ⟨ok, hL, hC⟩ := hR r hr
  exact ⟨(R r).1 + 1, tr_yW1 ht (by omega) ok.1 hL (fun j hj => hC j (by omega)) (fun j hj => ok.2.2.1 j (by omega)) ((R r).1 + 1) 0 (by omega) (Nat.zero_le _) hi hp⟩
theorem tr_yR1 {post : Int32 → Prop} {T : Nat → Nat} {s i rc : Nat} {R : Nat → TrD} (ht : tr_tm pe T s) (hR : tr_rl pa pb R rc) (hi : i ≤ s) : ∀ n r : Nat, rc + 1 ≤ n + r → r ≤ rc →
    post (tr_oi (tr_fr (fun r => tr_ap (R r).2.2.2 T s i (R r).1) (rc - r) r)) → wY_ruleAt_16 post (nI i) ya yb (nI rc) (nI s) ye yf yg yh yi pa pb pc pd pe pf pg n (nI r) := by
  have hs := ht.1
  have hrc := hR.1
  intro n
  induction n with
  | zero => intro r a b; omega
  | succ n ih =>
    intro r hn hr hp
    refine pk_le rc r (fun h => ?_) (fun h => ?_)
    · rw [show rc - r = 0 by omega] at hp
      exact hp
    · rw [show rc - r = (rc - (r + 1)) + 1 by omega] at hp
      obtain ⟨ok, -, -⟩ := hR.2 r h
      have hst : ∀ j, j < (R r).1 → ¬ nI ((R r).2.2.2 j) = -1 := fun j hj => tr_n1 (by have := ok.2.2.1 j (by omega); omega)
      refine tr_yW ht hR h hi ?_
      by_cases ha : tr_ap (R r).2.2.2 T s i (R r).1
      · have hle := tr_ap_le ha hi (Nat.le_refl _)
        rw [tr_wr_ap hst ha (R r).1 0 (by omega)]
        rw [tr_fr_t (p := fun r => tr_ap (R r).2.2.2 T s i (R r).1) (r := r) ha] at hp
        exact br_f (nI_pos (by omega)) hp
      · rw [tr_wr_na hst (R r).1 0 (by omega) (fun z => ha fun k hk => z k (Nat.zero_le _) hk)]
        rw [tr_fr_f (p := fun r => tr_ap (R r).2.2.2 T s i (R r).1) (r := r) ha] at hp
        exact br_t (by decide) (nm_r (nI_1 r) (ih (r + 1) (by omega) (by omega) hp))
theorem tr_yR {post : Int32 → Prop} {T : Nat → Nat} {s i rc : Nat} {R : Nat → TrD} (ht : tr_tm pe T s) (hR : tr_rl pa pb R rc) (hi : i < s) (hp : post (tr_oi (tr_ra R rc T s i))) :
    wpY_ruleAt post (ya, yb, nI rc, nI s, ye, yf, yg, yh, yi, pa, pb, pc, pd, pe, pf, pg) (nI i) := by
  have hs := ht.1
  exact br_f (nI_pos (by omega)) (br_t (nI_lt hi (by omega)) ⟨rc + 1, tr_yR1 ht hR (by omega) (rc + 1) 0 (by omega) (Nat.zero_le _) hp⟩)
theorem tr_yN37 {post J : Int32 → Prop} {T : Nat → Nat} {s rc i e : Nat} {R : Nat → TrD} (ht : tr_tm pe T s) (hR : tr_rl pa pb R rc) (he : e ≤ s) : ∀ n j : Nat, 1 ≤ n → e + 2 ≤ n + j → j ≤ s →
    ((∀ y, j ≤ y → y < e → ¬ tr_rd R rc T s y) → post (nI i)) → (¬ (∀ y, j ≤ y → y < e → ¬ tr_rd R rc T s y) → J (nI (i + 1))) →
    wY_nextRedex_37 post J (nI i) (nI e) ya yb (nI rc) (nI s) ye yf yg yh yi pa pb pc pd pe pf pg n 1 (nI j) := by
  have hs := ht.1
  have hrc := hR.1
  intro n
  induction n with
  | zero => intro j h; omega
  | succ n ih =>
    intro j _ hn hj h1 h0
    refine br_f (by decide) (pk_le e j (fun h => br_f (by decide) (h1 fun y a b => by omega)) (fun h => tr_yR ht hR (by omega) ?_))
    cases hra : tr_ra R rc T s j with
    | none =>
      have hn0 : ¬ tr_rd R rc T s j := fun z => z hra
      rw [tr_oi_n]
      refine br_t (by decide) (nm_r (nI_1 j) (ih (j + 1) (by omega) (by omega) (by omega) (fun H => h1 fun y a b => ?_) (fun H => h0 fun z => H fun y a b => z y (by omega) b)))
      by_cases ey : y = j
      · subst ey; exact hn0
      · exact H y (by omega) b
    | some r =>
      have hrd : tr_rd R rc T s j := fun z => by rw [hra] at z; exact nomatch z
      have hr := tr_ra_lt hra
      obtain ⟨m, rfl⟩ : ∃ m, n = m + 1 := ⟨n - 1, by omega⟩
      rw [tr_oi_s]
      exact br_f (nI_pos (by omega)) (nm_r (nI_1 j) (br_t rfl (br_t rfl (nm_r (nI_1 i) (h0 fun z => z j (Nat.le_refl _) h hrd)))))
theorem tr_yN1 {post : Int32 → Prop} {T : Nat → Nat} {s rc : Nat} {R : Nat → TrD} (ht : tr_tm pe T s) (hR : tr_rl pa pb R rc) : ∀ n i : Nat, s + 1 ≤ n + i → i ≤ s →
    post (tr_oi (tr_fr (tr_in (tr_rd R rc T s) T s) (s - i) i)) → wY_nextRedex_2 post ya yb (nI rc) (nI s) ye yf yg yh yi pa pb pc pd pe pf pg n (nI i) := by
  have hs := ht.1
  have hrc := hR.1
  intro n
  induction n with
  | zero => intro i a b; omega
  | succ n ih =>
    intro i hn hi hp
    refine pk_le s i (fun h => ?_) (fun h => tr_yE ht (by omega) (nm_r (nI_add _ _) (tr_yR ht hR h ?_)))
    · rw [show s - i = 0 by omega] at hp
      exact hp
    · have hE := tr_E_le T (show i ≤ s by omega)
      rw [show s - i = (s - (i + 1)) + 1 by omega] at hp
      cases hra : tr_ra R rc T s i with
      | none =>
        have hn0 : ¬ tr_rd R rc T s i := fun z => z hra
        rw [tr_fr_f (fun z => hn0 z.1)] at hp
        rw [tr_oi_n]
        exact br_t (by decide) (nm_r (nI_1 i) ⟨1, br_t rfl (br_t rfl (nm_r (nI_1 i) (ih (i + 1) (by omega) (by omega) hp)))⟩)
      | some r =>
        have hrd : tr_rd R rc T s i := fun z => by rw [hra] at z; exact nomatch z
        have hr := tr_ra_lt hra
        rw [tr_oi_s]
        refine br_f (nI_pos (by omega)) (nm_r (nI_1 i) ⟨s + 2, tr_yN37 ht hR hE (s + 2) (i + 1) (by omega) (by omega) (by omega) (fun H => ?_) (fun H => ?_)⟩)
        · rw [tr_fr_t ⟨hrd, (tr_nr_ge hE).mpr H⟩] at hp
          exact hp
        · rw [tr_fr_f (fun z => H ((tr_nr_ge hE).mp z.2))] at hp
          exact ih (i + 1) (by omega) (by omega) hp
theorem tr_yN {post : Int32 → Prop} {T : Nat → Nat} {s rc : Nat} {R : Nat → TrD} (ht : tr_tm pe T s) (hR : tr_rl pa pb R rc) (hp : post (tr_oi (tr_nx R rc T s))) : wpY_nextRedex post (ya, yb, nI rc, nI s, ye, yf, yg, yh, yi, pa, pb, pc, pd, pe, pf, pg) :=
  ⟨s + 1, tr_yN1 ht hR (s + 1) 0 (by omega) (Nat.zero_le _) hp⟩
end TRD
