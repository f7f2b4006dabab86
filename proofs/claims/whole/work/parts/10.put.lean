section TRJ
variable {xa xb xc xd xe xf xg xh xi ya yb yc yd ye yf yg yh yi : Int32} {qa qb qc qd qe qf qg qh qi pa pb pc pd pe pf pg : Nat → Int32}
/-! put: the tests of a variable, the accepted token, the finished sides -/
theorem tr_xM {post : Int32 → Prop} {en : Nat → Nat} {t cnt : Nat} (hc : cnt ≤ 64) (hf : tr_la qf en cnt) (ht : t < 24) (h24 : ∀ j, j < cnt → en j < 24) (k1 : (∃ j, j < cnt ∧ en j = t) → post 1) (k0 : (∀ j, j < cnt → en j ≠ t) → post 0) :
    wpX_amongEntryCells post (xa, xb, xc, xd, xe, xf, xg, xh, xi, qa, qb, qc, qd, qe, qf, qg, qh, qi) (nI t) (nI cnt) := by
  have H : ∀ n j : Nat, cnt + 1 ≤ n + j → j ≤ cnt → (∀ i, i < j → en i ≠ t) → wX_amongEntryCells_2 post (nI t) (nI cnt) xa xb xc xd xe xf xg xh xi qa qb qc qd qe qf qg qh qi n (nI j) := by
    intro n
    induction n with
    | zero => intro j a b; omega
    | succ n ih =>
      intro j hn hj ha
      refine pk_le cnt j (fun h => k0 fun i hi => ha i (by omega)) (fun h => ⟨vp_in_nI (by omega) (by decide), ?_⟩)
      have h2 := h24 j h
      rw [nI_clamp (show j < 2 ^ 31 by omega), hf j h]
      refine pk_eq (en j) t (fun e => k1 ⟨j, h, e⟩) (fun e => nm_r (nI_1 j) (ih (j + 1) (by omega) (by omega) fun i hi => ?_))
      by_cases z : i = j
      · subst z; exact e
      · exact ha i (by omega)
  exact ⟨cnt + 1, H (cnt + 1) 0 (by omega) (Nat.zero_le _) fun i hi => absurd hi (Nat.not_lt_zero _)⟩
theorem tr_y77 {post : Int32 → SY → Prop} {en : Nat → Nat} {t cnt : Nat} (hc : cnt ≤ 64) (hf : tr_la pf en cnt) (ht : t < 24) (h24 : ∀ j, j < cnt → en j < 24)
    (k1 : (∃ j, j < cnt ∧ en j = t) → (yf = 1 → post 4 (ya, yb, yc, yd, ye, yf, yg, yh, yi, pa, pb, pc, pd, pe, pf, pg)) ∧ (¬ yf = 1 → wY_put_121 post (nI t) ya yb yc yd ye yf yg yh yi pa pb pc pd pe pf pg)) (k0 : (∀ j, j < cnt → en j ≠ t) → (yf = 1 → wY_put_121 post (nI t) ya yb yc yd ye yf yg yh yi pa pb pc pd pe pf pg) ∧ (¬ yf = 1 → post 4 (ya, yb, yc, yd, ye, yf, yg, yh, yi, pa, pb, pc, pd, pe, pf, pg))) :
    ∀ n j : Nat, cnt + 1 ≤ n + j → j ≤ cnt → ((∃ i, i < j ∧ en i = t) → wY_put_77 post (nI t) (nI cnt) ya yb yc yd ye yf yg yh yi pa pb pc pd pe pf pg n 1 (nI j)) ∧ ((∀ i, i < j → en i ≠ t) → wY_put_77 post (nI t) (nI cnt) ya yb yc yd ye yf yg yh yi pa pb pc pd pe pf pg n 0 (nI j)) := by
  intro n
  induction n with
  | zero => intro j a b; omega
  | succ n ih =>
    intro j hn hj
    constructor
    · intro ⟨i, hi, ei⟩
      refine pk_le cnt j (fun h => ?_) (fun h => ⟨vp_in_nI (by omega) (by decide), ?_⟩)
      · have hk := k1 ⟨i, by omega, ei⟩
        exact ⟨fun e => br_t rfl (hk.1 e), fun e => br_f (by decide) (hk.2 e)⟩
      · have H := (ih (j + 1) (by omega) (by omega)).1 ⟨i, by omega, ei⟩
        exact br_c (fun _ => nm_r (nI_1 j) H) (fun _ => nm_r (nI_1 j) H)
    · intro ha
      refine pk_le cnt j (fun h => ?_) (fun h => ⟨vp_in_nI (by omega) (by decide), ?_⟩)
      · have hk := k0 fun i hi => ha i (by omega)
        exact ⟨fun e => br_f (by decide) (hk.1 e), fun e => br_t rfl (hk.2 e)⟩
      · have h2 := h24 j h
        rw [nI_clamp (show j < 2 ^ 31 by omega), hf j h]
        refine pk_eq (en j) t (fun e => nm_r (nI_1 j) ((ih (j + 1) (by omega) (by omega)).1 ⟨j, by omega, e⟩)) (fun e => nm_r (nI_1 j) ((ih (j + 1) (by omega) (by omega)).2 fun i hi => ?_))
        by_cases z : i = j
        · subst z; exact e
        · exact ha i (by omega)
def tr_ar (t : Nat) : Nat := if t < 16 then t / 4 else 0
theorem tr_ar_le {t : Nat} : tr_ar t ≤ 3 := by
  unfold tr_ar
  split <;> omega
theorem tr_xAr {post : Int32 → Prop} {t : Nat} (ht : t < 24) (hp : post (nI (tr_ar t))) : wpX_arityOf post (nI t) := by
  unfold tr_ar at hp
  refine pk_le 16 t (fun h => ?_) (fun h => ⟨by decide, ?_⟩)
  · rw [if_neg (by omega)] at hp
    exact hp
  · rw [if_pos h] at hp
    rw [tr_div4 (by omega)]
    exact hp
theorem tr_yAr {post : Int32 → Prop} {t : Nat} (ht : t < 24) (hp : post (nI (tr_ar t))) : wpY_arity post (ya, yb, yc, yd, ye, yf, yg, yh, yi, pa, pb, pc, pd, pe, pf, pg) (nI t) := by
  unfold tr_ar at hp
  refine pk_le 16 t (fun h => ?_) (fun h => ⟨by decide, ?_⟩)
  · rw [if_neg (by omega)] at hp
    exact hp
  · rw [if_pos h] at hp
    rw [tr_div4 (by omega)]
    exact hp
def tr_lim (md TL : Nat) : Nat := if md = 1 then 12 else if md = 2 then 16 else TL
theorem tr_lim1 {TL : Nat} : tr_lim 1 TL = 12 := rfl
theorem tr_lim2 {TL : Nat} : tr_lim 2 TL = 16 := rfl
theorem tr_lim3 {TL : Nat} : tr_lim 3 TL = TL := rfl
theorem tr_lim_le {md TL : Nat} (h : TL ≤ 64) : tr_lim md TL ≤ 64 := by
  unfold tr_lim
  split
  · omega
  · split <;> omega
theorem tr_xL {post : Int32 → Prop} {md TL : Nat} (hm : md ≤ 3) (hp : post (nI (tr_lim md TL))) : wpX_sideLimit post (xa, nI TL, xc, xd, xe, nI md, xg, xh, xi, qa, qb, qc, qd, qe, qf, qg, qh, qi) := by
  unfold tr_lim at hp
  refine pk_eq md 1 (fun e => ?_) (fun e => pk_eq md 2 (fun e2 => ?_) (fun e2 => ?_))
  · rw [if_pos e] at hp; exact hp
  · rw [if_neg e, if_pos e2] at hp; exact hp
  · rw [if_neg e, if_neg e2] at hp; exact hp
/-! the finished right side -/
theorem tr_xAdd {post : SX → Prop} {rc es : Nat} {en : Nat → Nat} (hrc : rc < 12) (hes : es ≤ 28) (hf : tr_la qf en es)
    (k0 : ∀ a, (∀ j, j < es → a (rc * 28 + j) = nI (en j)) → (∀ q, q < rc * 28 → a q = qa q) → post (xa, xb, nI (rc + 1), xd, xe, xf, nI es, xh, xi, a, upd qb rc xh, upd qc rc (nI es), upd qd rc 0, qe, qf, qg, qh, qi)) : wpX_addEnteredRule post (xa, xb, nI rc, xd, xe, xf, nI es, xh, xi, qa, qb, qc, qd, qe, qf, qg, qh, qi) := by
  have H : ∀ (n j : Nat) (a : Nat → Int32), es + 1 ≤ n + j → j ≤ es → (∀ i, i < j → a (rc * 28 + i) = nI (en i)) → (∀ q, q < rc * 28 → a q = qa q) → wX_addEnteredRule_10 post (nI (rc * 28)) xa xb (nI rc) xd xe xf (nI es) xh xi n (nI j) a qb qc qd qe qf qg qh qi := by
    intro n
    induction n with
    | zero => intro j a b c; omega
    | succ n ih =>
      intro j a hn hj h1 h2
      refine pk_le es j (fun h => ⟨vp_in_nI hrc (by decide), ?_⟩) (fun h => ⟨vp_in_nI (by omega) (by decide), by rw [nI_add]; exact vp_in_nI (by omega) (by decide), ?_⟩)
      · have e : j = es := by omega
        subst e
        rw [nI_clamp (show rc < 2 ^ 31 by omega)]
        exact nm_e ⟨vp_in_nI hrc (by decide), nm_e ⟨vp_in_nI hrc (by decide), nm_e (nm_r (nI_1 rc) (k0 a h1 h2))⟩⟩
      · rw [nI_add, nI_clamp (by omega), nI_clamp (by omega), hf j h]
        refine nm_e (nm_r (nI_1 j) (ih (j + 1) _ (by omega) (by omega) (fun i hi => ?_) (fun q hq => ?_)))
        · by_cases z : i = j
          · subst z; exact pk_us
          · rw [pk_un (by omega)]; exact h1 i (by omega)
        · rw [pk_un (by omega)]; exact h2 q hq
  exact nm_r (tr_m28 rc) ⟨es + 1, H (es + 1) 0 qa (by omega) (Nat.zero_le _) (fun i hi => absurd hi (Nat.not_lt_zero _)) (fun q _ => rfl)⟩
theorem tr_y269 {post : Int32 → SY → Prop} {rc n0 el : Nat} {en : Nat → Nat} (hrc : rc < 12) (hes : el + n0 ≤ 28) (hf : tr_la pf en (el + n0))
    (k0 : ∀ a, (∀ j, j < el + n0 → a (rc * 28 + j) = nI (en j)) → (∀ q, q < rc * 28 → a q = pa q) → post 1 (ya, yb, nI (rc + 1), yd, ye, 0, nI n0, yh, nI el, a, upd pb rc (nI el), upd pc rc (nI n0), upd pd rc 0, pe, pf, pg)) : ∃ n, wY_put_269 post ya yb (nI rc) yd ye yf (nI n0) yh (nI el) n 0 pa pb pc pd pe pf pg := by
  have H : ∀ (n j : Nat) (a : Nat → Int32), el + n0 + 1 ≤ n + j → j ≤ el + n0 → (∀ i, i < j → a (rc * 28 + i) = nI (en i)) → (∀ q, q < rc * 28 → a q = pa q) → wY_put_269 post ya yb (nI rc) yd ye yf (nI n0) yh (nI el) n (nI j) a pb pc pd pe pf pg := by
    intro n
    induction n with
    | zero => intro j a b c; omega
    | succ n ih =>
      intro j a hn hj h1 h2
      refine pk_le (el + n0) j (fun h => ⟨vp_in_nI hrc (by decide), ?_⟩) (fun h => ⟨vp_in_nI (by omega) (by decide), by rw [tr_28]; exact vp_in_nI (by omega) (by decide), ?_⟩) (hx := nI_add _ _)
      · have e : j = el + n0 := by omega
        subst e
        rw [nI_clamp (show rc < 2 ^ 31 by omega)]
        exact nm_e ⟨vp_in_nI hrc (by decide), nm_e ⟨vp_in_nI hrc (by decide), nm_e (nm_r (nI_1 rc) (k0 a h1 h2))⟩⟩
      · rw [tr_28, nI_clamp (by omega), nI_clamp (by omega), hf j h]
        refine nm_e (nm_r (nI_1 j) (ih (j + 1) _ (by omega) (by omega) (fun i hi => ?_) (fun q hq => ?_)))
        · by_cases z : i = j
          · subst z; exact pk_us
          · rw [pk_un (by omega)]; exact h1 i (by omega)
        · rw [pk_un (by omega)]; exact h2 q hq
  exact ⟨el + n0 + 1, H (el + n0 + 1) 0 pa (by omega) (Nat.zero_le _) (fun i hi => absurd hi (Nat.not_lt_zero _)) (fun q _ => rfl)⟩
/-! the finished term -/
theorem tr_xTake {post : SX → Prop} {rc es : Nat} {en : Nat → Nat} (hrc : rc ≤ 12) (hes : es ≤ 64) (hf : tr_la qf en es)
    (k0 : ∀ a b, tr_la a en es → (∀ q, q < rc → b q = 0) → post (xa, xb, nI rc, nI es, 0, xf, nI es, xh, xi, qa, qb, qc, b, a, qf, qg, qh, qi)) : wpX_takeEnteredTerm post (xa, xb, nI rc, xd, xe, xf, nI es, xh, xi, qa, qb, qc, qd, qe, qf, qg, qh, qi) := by
  have H2 : ∀ (a : Nat → Int32), tr_la a en es → ∀ (n j : Nat) (b : Nat → Int32), rc + 1 ≤ n + j → j ≤ rc → (∀ q, q < j → b q = 0) → wX_takeEnteredTerm_43 post xa xb (nI rc) (nI es) 0 xf (nI es) xh xi n (nI j) qa qb qc b a qf qg qh qi := by
    intro a ha n
    induction n with
    | zero => intro j b c d; omega
    | succ n ih =>
      intro j b hn hj h1
      refine pk_le rc j (fun h => k0 a b ha fun q hq => h1 q (by omega)) (fun h => ⟨vp_in_nI (by omega) (by decide), ?_⟩)
      rw [nI_clamp (show j < 2 ^ 31 by omega)]
      refine nm_e (nm_r (nI_1 j) (ih (j + 1) _ (by omega) (by omega) fun q hq => ?_))
      by_cases z : q = j
      · subst z; exact pk_us
      · rw [pk_un z]; exact h1 q (by omega)
  have H : ∀ (n j : Nat) (a : Nat → Int32), es + 1 ≤ n + j → j ≤ es → tr_la a en j → wX_takeEnteredTerm_2 post xa xb (nI rc) xd xe xf (nI es) xh xi n (nI j) qa qb qc qd a qf qg qh qi := by
    intro n
    induction n with
    | zero => intro j a b c; omega
    | succ n ih =>
      intro j a hn hj h1
      refine pk_le es j (fun h => ?_) (fun h => ⟨vp_in_nI (by omega) (by decide), vp_in_nI (by omega) (by decide), ?_⟩)
      · have e : j = es := by omega
        subst e
        exact ⟨rc + 1, H2 a h1 (rc + 1) 0 qd (by omega) (Nat.zero_le _) fun q hq => absurd hq (Nat.not_lt_zero _)⟩
      · rw [nI_clamp (show j < 2 ^ 31 by omega), hf j h]
        refine nm_e (nm_r (nI_1 j) (ih (j + 1) _ (by omega) (by omega) fun q hq => ?_))
        by_cases z : q = j
        · subst z; exact pk_us
        · rw [pk_un z]; exact h1 q (by omega)
  exact ⟨es + 1, H (es + 1) 0 qe (by omega) (Nat.zero_le _) fun q hq => absurd hq (Nat.not_lt_zero _)⟩
theorem tr_y363 {post : Int32 → SY → Prop} {es : Nat} {en : Nat → Nat} (hes : es ≤ 64) (hf : tr_la pf en es)
    (k0 : ∀ a b, tr_la a en es → (∀ q, q < 12 → b q = 0) → post 1 (ya, yb, yc, nI es, 0, 0, nI es, yh, yi, pa, pb, pc, b, a, pf, pg)) : ∃ n, wY_put_363 post ya yb yc yd ye yf (nI es) yh yi n 0 pa pb pc pd pe pf pg := by
  have H2 : ∀ (a : Nat → Int32), tr_la a en es → ∀ (n j : Nat) (b : Nat → Int32), 13 ≤ n + j → j ≤ 12 → (∀ q, q < j → b q = 0) → wY_put_408 post ya yb yc (nI es) 0 yf (nI es) yh yi n (nI j) pa pb pc b a pf pg := by
    intro a ha n
    induction n with
    | zero => intro j b c d; omega
    | succ n ih =>
      intro j b hn hj h1
      refine pk_le 12 j (fun h => k0 a b ha fun q hq => h1 q (by omega)) (fun h => ⟨vp_in_nI (by omega) (by decide), ?_⟩)
      rw [nI_clamp (show j < 2 ^ 31 by omega)]
      refine nm_e (nm_r (nI_1 j) (ih (j + 1) _ (by omega) (by omega) fun q hq => ?_))
      by_cases z : q = j
      · subst z; exact pk_us
      · rw [pk_un z]; exact h1 q (by omega)
  have H : ∀ (n j : Nat) (a : Nat → Int32), es + 1 ≤ n + j → j ≤ es → tr_la a en j → wY_put_363 post ya yb yc yd ye yf (nI es) yh yi n (nI j) pa pb pc pd a pf pg := by
    intro n
    induction n with
    | zero => intro j a b c; omega
    | succ n ih =>
      intro j a hn hj h1
      refine pk_le es j (fun h => ?_) (fun h => ⟨vp_in_nI (by omega) (by decide), vp_in_nI (by omega) (by decide), ?_⟩)
      · have e : j = es := by omega
        subst e
        exact ⟨13, H2 a h1 13 0 pd (by omega) (Nat.zero_le _) fun q hq => absurd hq (Nat.not_lt_zero _)⟩
      · rw [nI_clamp (show j < 2 ^ 31 by omega), hf j h]
        refine nm_e (nm_r (nI_1 j) (ih (j + 1) _ (by omega) (by omega) fun q hq => ?_))
        by_cases z : q = j
        · subst z; exact pk_us
        · rw [pk_un z]; exact h1 q (by omega)
  exact ⟨es + 1, H (es + 1) 0 pe (by omega) (Nat.zero_le _) fun q hq => absurd hq (Nat.not_lt_zero _)⟩
end TRJ
