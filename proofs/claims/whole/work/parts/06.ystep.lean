section TRF
variable {xa xb xc xd xe xf xg xh xi ya yb yc yd ye yf yg yh yi : Int32} {qa qb qc qd qe qf qg qh qi pa pb pc pd pe pf pg : Nat → Int32}
/-! one step of the reference -/
abbrev TrJ : Type := Int32 → Int32 → (Nat → Int32) → (Nat → Int32) → (Nat → Int32) → (Nat → Int32) → (Nat → Int32) → (Nat → Int32) → (Nat → Int32) → Prop
theorem tr_y127 {post : Int32 → SY → Prop} {J : TrJ} {T : Nat → Nat} {s p cnt : Nat} {L : List Nat} {x1 x2 x4 x5 : Int32} (ht : tr_tm pe T s) (hp : p + cnt ≤ s) (hL : L.length + cnt ≤ 1100)
    (k0 : ∀ pg, tr_hl pg (L ++ tr_sg T p cnt) → J (nI (L.length + cnt)) (x5 + 1) pa pb pc pd pe pf pg) : ∀ (n k : Nat) (pg : Nat → Int32), cnt + 1 ≤ n + k → k ≤ cnt → tr_hl pg (L ++ tr_sg T p k) →
    wY_rewrite_127 post J x1 x2 x4 x5 (nI p) (nI cnt) ya yb yc yd ye yf yg yh yi n (nI (L.length + k)) (nI k) pa pb pc pd pe pf pg := by
  have hs := ht.1
  intro n
  induction n with
  | zero => intro k pg a b; omega
  | succ n ih =>
    intro k pg hn hk hh
    refine pk_le cnt k (fun h => nm_e ?_) (fun h => nm_r (nI_1 _) ⟨by rw [nI_add]; exact vp_in_nI (by omega) (by decide), vp_in_nI (by omega) (by decide), nm_r (e' := upd pg (L ++ tr_sg T p k).length (nI (T (p + k)))) ?_ (nm_r (nI_1 k) (ih (k + 1) _ (by omega) (by omega) ?_))⟩)
    · have e : k = cnt := by omega
      subst e
      exact k0 pg hh
    · rw [nI_add, nI_clamp (by omega), nI_clamp (by omega), ht.2.1 _ (by omega), List.length_append, tr_sg_len]
    · rw [tr_sg_s, ← List.append_assoc]
      exact tr_hl_put hh
theorem tr_y45 {post : Int32 → SY → Prop} {T B : Nat → Nat} {s i rc r : Nat} {R : Nat → TrD} {L : List Nat} {x4 : Int32} (ht : tr_tm pe T s) (hR : tr_rl pa pb R rc) (hZ : ∀ q, q < rc → pc q = nI (R q).2.1) (hi : i < s) (hr : r < rc)
    (hB : ∀ k, k < (R r).2.1 → 16 ≤ (R r).2.2.2 ((R r).1 + k) → B ((R r).2.2.2 ((R r).1 + k)) < s ∧ tr_wr (R r).2.2.2 T s i (nI ((R r).2.2.2 ((R r).1 + k))) (R r).1 0 = nI (B ((R r).2.2.2 ((R r).1 + k))))
    (hL : (L ++ tr_ct T (R r).2.2.2 B s (R r).1 (R r).2.1).length < 1100)
    (k0 : ∀ pg, tr_hl pg (L ++ tr_ct T (R r).2.2.2 B s (R r).1 (R r).2.1) → ∃ n, wY_rewrite_169 post ya yb yc (nI s) ye yf yg yh yi n (nI (L ++ tr_ct T (R r).2.2.2 B s (R r).1 (R r).2.1).length) x4 pa pb pc pd pe pf pg) :
    ∀ (n k : Nat) (pg : Nat → Int32), (R r).2.1 + 1 ≤ n + k → k ≤ (R r).2.1 → tr_hl pg (L ++ tr_ct T (R r).2.2.2 B s (R r).1 k) →
    wY_rewrite_45 post (nI i) (nI r) x4 ya yb yc (nI s) ye yf yg yh yi n (nI (L ++ tr_ct T (R r).2.2.2 B s (R r).1 k).length) (nI k) pa pb pc pd pe pf pg := by
  have hs := ht.1
  have hrc := hR.1
  obtain ⟨ok, hQ, hC⟩ := hR.2 r hr
  have hl := ok.1
  have hrl := ok.2.1
  have hZr := hZ r hr
  rw [List.length_append] at hL
  intro n
  induction n with
  | zero => intro k pg a b; omega
  | succ n ih =>
    intro k pg hn hk hh
    refine ⟨vp_in_nI (by omega) (by decide), ?_⟩
    have eZ : pc (nI r).toNatClampNeg = nI (R r).2.1 := by rw [nI_clamp (by omega)]; exact hZr
    have eQ : pb (nI r).toNatClampNeg = nI (R r).1 := by rw [nI_clamp (by omega)]; exact hQ
    rw [eZ, eQ]
    refine pk_le (R r).2.1 k (fun h => ?_) (fun h => ⟨vp_in_nI (by omega) (by decide), by rw [tr_28, nI_add]; exact vp_in_nI (by omega) (by decide), nm_r (e' := nI ((R r).2.2.2 ((R r).1 + k))) ?_ (tr_yW ht hR hr (by omega) ?_)⟩)
    · have e : k = (R r).2.1 := by omega
      subst e
      exact k0 pg hh
    · rw [tr_28, nI_add, nI_clamp (by omega), Nat.add_assoc]
      exact hC ((R r).1 + k) (by omega)
    · have hc := ok.2.2.1 ((R r).1 + k) (by omega)
      have hm := tr_ct_mono (c := (R r).2.2.2) (T := T) (B := B) (s := s) (l := (R r).1) ((R r).2.1 - (k + 1)) (k + 1)
      rw [show k + 1 + ((R r).2.1 - (k + 1)) = (R r).2.1 by omega] at hm
      by_cases h3 : (R r).2.2.2 ((R r).1 + k) < 16
      · rw [tr_ct_s h3, List.length_append] at hm
        have h1 : [(R r).2.2.2 ((R r).1 + k)].length = 1 := rfl
        have hlen : (L ++ tr_ct T (R r).2.2.2 B s (R r).1 k).length < 1100 := by rw [List.length_append]; omega
        refine pk_le 16 ((R r).2.2.2 ((R r).1 + k)) (fun z => absurd z (by omega)) (fun _ => pk_le 16 ((R r).2.2.2 ((R r).1 + k)) (fun z => absurd z (by omega)) (fun _ => nm_r (nI_1 _) ⟨vp_in_nI hlen (by decide), ?_⟩))
        rw [nI_clamp (show (L ++ tr_ct T (R r).2.2.2 B s (R r).1 k).length < 2 ^ 31 by omega)]
        refine nm_e ⟨1, br_t (by decide) (nm_r (nI_1 k) ?_)⟩
        have H := ih (k + 1) _ (by omega) (by omega) (by rw [tr_ct_s h3, ← List.append_assoc]; exact tr_hl_put hh)
        rw [tr_ct_s h3, ← List.append_assoc, List.length_append] at H
        exact H
      · obtain ⟨b1, b2⟩ := hB k (by omega) (by omega)
        rw [tr_ct_v h3, List.length_append, tr_sg_len] at hm
        rw [b2]
        refine pk_le 16 ((R r).2.2.2 ((R r).1 + k)) (fun _ => tr_yE ht (by omega) ?_) (fun z => absurd z (by omega))
        refine pk_le 16 ((R r).2.2.2 ((R r).1 + k)) (fun _ => ⟨tr_E T s (B ((R r).2.2.2 ((R r).1 + k))) + 1, ?_⟩) (fun z => absurd z (by omega))
        refine tr_y127 (L := L ++ tr_ct T (R r).2.2.2 B s (R r).1 k) ht (tr_E_le T (show B ((R r).2.2.2 ((R r).1 + k)) ≤ s by omega)) (by rw [List.length_append]; omega) (fun pg2 hg => ?_) _ 0 pg (by omega) (Nat.zero_le _) (by rw [tr_sg_0, List.append_nil]; exact hh)
        rw [nI_1 k]
        have H := ih (k + 1) pg2 (by omega) (by omega) (by rw [tr_ct_v h3, ← List.append_assoc]; exact hg)
        rw [tr_ct_v h3, ← List.append_assoc, List.length_append, tr_sg_len] at H
        exact H
theorem tr_y213 {post : Int32 → SY → Prop} {L : List Nat} (hL : L.length ≤ 64) (hh : tr_hl pg L) (k0 : ∀ pe, tr_hl pe L → post 1 (ya, yb, yc, nI L.length, ye, yf, yg, yh, yi, pa, pb, pc, pd, pe, pf, pg)) : ∀ (n k : Nat) (pe : Nat → Int32), L.length + 1 ≤ n + k → k ≤ L.length → tr_la pe (fun q => L.getD q 0) k →
    wY_rewrite_213 post (nI L.length) ya yb yc yd ye yf yg yh yi n (nI k) pa pb pc pd pe pf pg := by
  intro n
  induction n with
  | zero => intro k pe a b; omega
  | succ n ih =>
    intro k pe hn hk hq
    refine pk_le L.length k (fun h => ?_) (fun h => ⟨vp_in_nI (by omega) (by decide), vp_in_nI (by omega) (by decide), ?_⟩)
    · have e : k = L.length := by omega
      subst e
      exact k0 pe hq
    · rw [nI_clamp (show k < 2 ^ 31 by omega)]
      refine nm_e (nm_r (nI_1 k) (ih (k + 1) _ (by omega) (by omega) fun j hj => ?_))
      by_cases e : j = k
      · subst e; rw [pk_us]; exact hh j h
      · rw [pk_un e]; exact hq j (by omega)
theorem tr_y169 {post : Int32 → SY → Prop} {T : Nat → Nat} {s p cnt TL : Nat} {L : List Nat} (ht : tr_tm pe T s) (hTL : TL ≤ 64) (hp : p + cnt = s) (hL : L.length + cnt ≤ 1100)
    (k1 : L.length + cnt ≤ TL → ∀ pg, tr_hl pg (L ++ tr_sg T p cnt) → ∃ n, wY_rewrite_213 post (nI (L.length + cnt)) ya (nI TL) yc (nI s) ye yf yg yh yi n 0 pa pb pc pd pe pf pg) (k0 : TL < L.length + cnt → ∀ pg, post 0 (ya, nI TL, yc, nI s, ye, yf, yg, yh, yi, pa, pb, pc, pd, pe, pf, pg)) :
    ∀ (n k : Nat) (pg : Nat → Int32), cnt + 1 ≤ n + k → k ≤ cnt → tr_hl pg (L ++ tr_sg T p k) → wY_rewrite_169 post ya (nI TL) yc (nI s) ye yf yg yh yi n (nI (L.length + k)) (nI (p + k)) pa pb pc pd pe pf pg := by
  have hs := ht.1
  intro n
  induction n with
  | zero => intro k pg a b; omega
  | succ n ih =>
    intro k pg hn hk hh
    refine pk_le s (p + k) (fun h => ?_) (fun h => nm_r (nI_1 _) ⟨vp_in_nI (by omega) (by decide), vp_in_nI (by omega) (by decide), nm_r (e' := upd pg (L ++ tr_sg T p k).length (nI (T (p + k)))) ?_ (nm_r (nI_1 _) (ih (k + 1) _ (by omega) (by omega) ?_))⟩)
    · have e : k = cnt := by omega
      subst e
      exact pk_le (L.length + k) TL (fun h2 => k1 h2 pg hh) (fun h2 => k0 h2 pg)
    · rw [nI_clamp (by omega), nI_clamp (by omega), ht.2.1 _ (by omega), List.length_append, tr_sg_len]
    · rw [tr_sg_s, ← List.append_assoc]
      exact tr_hl_put hh
theorem tr_y14 {post : Int32 → SY → Prop} {T : Nat → Nat} {s i : Nat} {x2 x4 : Int32} (ht : tr_tm pe T s) (hi : i ≤ s)
    (k0 : ∀ pg, tr_hl pg (tr_sg T 0 i) → ∃ n, wY_rewrite_45 post (nI i) x2 x4 ya yb yc yd ye yf yg yh yi n (nI i) 0 pa pb pc pd pe pf pg) : ∀ (n k : Nat) (pg : Nat → Int32), i + 1 ≤ n + k → k ≤ i → tr_hl pg (tr_sg T 0 k) →
    wY_rewrite_14 post (nI i) x2 x4 ya yb yc yd ye yf yg yh yi n (nI k) (nI k) pa pb pc pd pe pf pg := by
  have hs := ht.1
  intro n
  induction n with
  | zero => intro k pg a b; omega
  | succ n ih =>
    intro k pg hn hk hh
    refine pk_le i k (fun h => ?_) (fun h => nm_r (nI_1 _) ⟨vp_in_nI (by omega) (by decide), vp_in_nI (by omega) (by decide), nm_r (e' := upd pg (tr_sg T 0 k).length (nI (T (0 + k)))) ?_ (nm_r (nI_1 _) (ih (k + 1) _ (by omega) (by omega) ?_))⟩)
    · have e : k = i := by omega
      subst e
      exact k0 pg hh
    · rw [nI_clamp (by omega), ht.2.1 _ (by omega), tr_sg_len, Nat.zero_add]
    · rw [tr_sg_s]
      exact tr_hl_put hh
theorem tr_yX {post : Int32 → SY → Prop} {T B : Nat → Nat} {s i rc r TL : Nat} {R : Nat → TrD} (ht : tr_tm pe T s) (hTL : TL ≤ 64) (hR : tr_rl pa pb R rc) (hZ : ∀ q, q < rc → pc q = nI (R q).2.1) (hi : i < s) (hra : tr_ra R rc T s i = some r)
    (hB : ∀ j, j < (R r).1 → 16 ≤ (R r).2.2.2 j → B ((R r).2.2.2 j) = tr_ps (R r).2.2.2 T s i j)
    (k1 : (tr_L T (R r).2.2.2 B s i (R r).1 (R r).2.1).length ≤ TL → ∀ pe pg, tr_hl pe (tr_L T (R r).2.2.2 B s i (R r).1 (R r).2.1) → post 1 (ya, nI TL, yc, nI (tr_L T (R r).2.2.2 B s i (R r).1 (R r).2.1).length, ye, yf, yg, yh, yi, pa, pb, pc, pd, pe, pf, pg))
    (k0 : TL < (tr_L T (R r).2.2.2 B s i (R r).1 (R r).2.1).length → ∀ pg, post 0 (ya, nI TL, yc, nI s, ye, yf, yg, yh, yi, pa, pb, pc, pd, pe, pf, pg)) : wpY_rewrite post (ya, nI TL, yc, nI s, ye, yf, yg, yh, yi, pa, pb, pc, pd, pe, pf, pg) (nI i) (nI r) := by
  have hs := ht.1
  have hr := tr_ra_lt hra
  obtain ⟨ok, hQ, hC⟩ := hR.2 r hr
  have hap := (tr_fr_some _ _ hra).2.2.1
  have hE := tr_E_le T (show i ≤ s by omega)
  have hrl := ok.2.1
  have hLl := tr_L_len (T := T) (c := (R r).2.2.2) (B := B) (s := s) (i := i) (l := (R r).1) (rl := (R r).2.1)
  have hB2 : ∀ k, k < (R r).2.1 → 16 ≤ (R r).2.2.2 ((R r).1 + k) → B ((R r).2.2.2 ((R r).1 + k)) < s ∧ tr_wr (R r).2.2.2 T s i (nI ((R r).2.2.2 ((R r).1 + k))) (R r).1 0 = nI (B ((R r).2.2.2 ((R r).1 + k))) := fun k hk h16 => by
    obtain ⟨j, hj, e⟩ := ok.2.2.2.2 ((R r).1 + k) (by omega) (by omega) h16
    rw [← e] at h16 ⊢
    rw [hB j hj h16]
    refine ⟨(hap j hj).1, ?_⟩
    have h24 := ok.2.2.1 j (by omega)
    exact tr_wr_v (by omega) (fun m hm => by have := ok.2.2.1 m (by omega); omega) hj rfl (fun m hm e2 => ok.2.2.2.1 m j hm hj e2 (by omega)) hap (R r).1 0 (by omega) (Nat.zero_le _)
  have hlen := tr_ct_len (T := T) (c := (R r).2.2.2) (B := B) (l := (R r).1) (rl := (R r).2.1) hs (fun k hk h16 => (hB2 k hk h16).1) (R r).2.1 (Nat.le_refl _)
  have e0 : tr_sg T 0 i ++ tr_ct T (R r).2.2.2 B s (R r).1 0 = tr_sg T 0 i := List.append_nil _
  have e1 : (tr_sg T 0 i ++ tr_ct T (R r).2.2.2 B s (R r).1 (R r).2.1).length = i + (tr_ct T (R r).2.2.2 B s (R r).1 (R r).2.1).length := by rw [List.length_append, tr_sg_len]
  unfold wpY_rewrite
  refine tr_yE ht (by omega) ?_
  refine nm_r (nI_add _ _) ⟨i + 1, tr_y14 ht (by omega) (fun pg2 hg => ?_) (i + 1) 0 pg (by omega) (Nat.zero_le _) tr_hl_0⟩
  have K : ∀ pg, tr_hl pg (tr_sg T 0 i ++ tr_ct T (R r).2.2.2 B s (R r).1 (R r).2.1) → ∃ n, wY_rewrite_169 post ya (nI TL) yc (nI s) ye yf yg yh yi n (nI (tr_sg T 0 i ++ tr_ct T (R r).2.2.2 B s (R r).1 (R r).2.1).length) (nI (i + tr_E T s i)) pa pb pc pd pe pf pg := fun pg3 hg3 => by
    refine ⟨s - (i + tr_E T s i) + 1, tr_y169 (L := tr_sg T 0 i ++ tr_ct T (R r).2.2.2 B s (R r).1 (R r).2.1) (p := i + tr_E T s i) (cnt := s - (i + tr_E T s i)) ht hTL (by omega) (by rw [e1]; omega) (fun h pg4 hg4 => ?_) (fun h pg4 => k0 (by rw [hLl]; rw [e1] at h; exact h) pg4) _ 0 pg3 (by omega) (Nat.zero_le _) (by rw [tr_sg_0, List.append_nil]; exact hg3)⟩
    rw [e1, ← hLl]
    rw [e1, ← hLl] at h
    exact ⟨_, tr_y213 (L := tr_L T (R r).2.2.2 B s i (R r).1 (R r).2.1) (by omega) hg4 (fun pe2 hh => k1 h pe2 pg4 hh) ((tr_L T (R r).2.2.2 B s i (R r).1 (R r).2.1).length + 1) 0 pe (Nat.le_refl _) (Nat.zero_le _) (fun j hj => absurd hj (Nat.not_lt_zero _))⟩
  have H := tr_y45 (B := B) (L := tr_sg T 0 i) ht hR hZ hi hr hB2 (by rw [e1]; omega) K ((R r).2.1 + 1) 0 pg2 (by omega) (Nat.zero_le _) (by rw [e0]; exact hg)
  rw [e0, tr_sg_len] at H
  exact ⟨_, H⟩
end TRF
