section TRK
variable {xa xb xc xd xe xf xg xh xi ya yb yc yd ye yf yg yh yi : Int32} {qa qb qc qd qe qf qg qh qi pa pb pc pd pe pf pg : Nat → Int32}
/-! put: an accepted token on either side, then both -/
theorem tr_x37 {post : Int32 → SX → Prop} {md TL rc n m el t : Nat} {en : Nat → Nat} (h3 : md ≤ 3) (h1 : 1 ≤ md) (hTL : TL ≤ 64) (hm : 1 ≤ m) (hnm : n + m ≤ 64) (hel : el ≤ 12) (hrc : rc ≤ 12) (hrl : md = 2 → rc < 12) (ht : t < 24)
    (hidx : n + 1 ≤ tr_lim md TL → el + n + 1 ≤ 64) (hf : tr_la (upd qf (el + n) (nI t)) en (el + n + 1))
    (k5 : tr_lim md TL < n + m + tr_ar t → post 5 (xa, nI TL, nI rc, xd, xe, nI md, nI (el + n), nI el, nI m, qa, qb, qc, qd, qe, qf, qg, qh, qi))
    (k0 : n + m + tr_ar t ≤ tr_lim md TL → 0 < m - 1 + tr_ar t → post 0 (xa, nI TL, nI rc, xd, xe, nI md, nI (el + n + 1), nI el, nI (m - 1 + tr_ar t), qa, qb, qc, qd, qe, upd qf (el + n) (nI t), qg, qh, qi))
    (kA : n + m + tr_ar t ≤ tr_lim md TL → m - 1 + tr_ar t = 0 → md = 1 → post 0 (xa, nI TL, nI rc, xd, xe, 2, nI (el + n + 1), nI (el + n + 1), 1, qa, qb, qc, qd, qe, upd qf (el + n) (nI t), qg, qh, qi))
    (kB : n + m + tr_ar t ≤ tr_lim md TL → m - 1 + tr_ar t = 0 → md = 2 → ∀ a, (∀ j, j < el + n + 1 → a (rc * 28 + j) = nI (en j)) → (∀ q, q < rc * 28 → a q = qa q) → post 1 (xa, nI TL, nI (rc + 1), xd, xe, 0, nI (el + n + 1), nI el, nI (m - 1 + tr_ar t), a, upd qb rc (nI el), upd qc rc (nI (el + n + 1)), upd qd rc 0, qe, upd qf (el + n) (nI t), qg, qh, qi))
    (kC : n + m + tr_ar t ≤ tr_lim md TL → m - 1 + tr_ar t = 0 → md = 3 → ∀ a b, tr_la a en (el + n + 1) → (∀ q, q < rc → b q = 0) → post 1 (xa, nI TL, nI rc, nI (el + n + 1), 0, 0, nI (el + n + 1), nI el, nI (m - 1 + tr_ar t), qa, qb, qc, b, a, upd qf (el + n) (nI t), qg, qh, qi)) :
    wX_put_37 post (nI t) xa (nI TL) (nI rc) xd xe (nI md) (nI (el + n)) (nI el) (nI m) qa qb qc qd qe qf qg qh qi := by
  have hA := tr_ar_le (t := t)
  have hL := tr_lim_le (md := md) hTL
  unfold wX_put_37
  refine tr_xAr ht ?_
  refine nm_r (e' := nI n) (by rw [pk_sub (by omega)]; exact congrArg nI (by omega)) ?_
  refine tr_xL h3 ?_
  refine pk_le (n + m + tr_ar t) (tr_lim md TL) (fun h => ⟨vp_in_nI (by have := hidx (by omega); omega) (by decide), ?_⟩) k5 (hx := by rw [nI_add, nI_add])
  rw [nI_clamp (show el + n < 2 ^ 31 by omega)]
  refine nm_e (nm_r (nI_1 _) (nm_r (tr_op1 hm) ?_))
  refine pk_le (m - 1 + tr_ar t) 0 (fun h2 => ?_) (fun h2 => k0 h h2)
  have h0 : m - 1 + tr_ar t = 0 := by omega
  refine pk_eq md 1 (fun e => kA h h0 e) (fun e => pk_eq md 2 (fun e2 => ?_) (fun e2 => ?_))
  · have eL : tr_lim md TL = 16 := by rw [e2]; exact tr_lim2
    exact tr_xAdd (hrl e2) (by omega) hf (fun a ha hb => kB h h0 e2 a ha hb)
  · exact tr_xTake hrc (hidx (by omega)) hf (fun a b ha hb => kC h h0 (by omega) a b ha hb)
theorem tr_y121 {post : Int32 → SY → Prop} {md TL rc n m el t : Nat} {en : Nat → Nat} (h3 : md ≤ 3) (h1 : 1 ≤ md) (hTL : TL ≤ 64) (hm : 1 ≤ m) (hnm : n + m ≤ 64) (hel : el ≤ 12) (hrc : rc ≤ 12) (hrl : md = 2 → rc < 12) (ht : t < 24)
    (hidx : n + 1 ≤ tr_lim md TL → el + n + 1 ≤ 64) (hf : tr_la (upd pf (el + n) (nI t)) en (el + n + 1)) (hyi : md = 2 → yi = nI el) (he0 : ¬ md = 2 → el = 0)
    (k5 : tr_lim md TL < n + m + tr_ar t → post 5 (ya, nI TL, nI rc, yd, ye, nI md, nI n, nI m, yi, pa, pb, pc, pd, pe, pf, pg))
    (k0 : n + m + tr_ar t ≤ tr_lim md TL → 0 < m - 1 + tr_ar t → post 0 (ya, nI TL, nI rc, yd, ye, nI md, nI (n + 1), nI (m - 1 + tr_ar t), yi, pa, pb, pc, pd, pe, upd pf (el + n) (nI t), pg))
    (kA : n + m + tr_ar t ≤ tr_lim md TL → m - 1 + tr_ar t = 0 → md = 1 → post 0 (ya, nI TL, nI rc, yd, ye, 2, 0, 1, nI (n + 1), pa, pb, pc, pd, pe, upd pf (el + n) (nI t), pg))
    (kB : n + m + tr_ar t ≤ tr_lim md TL → m - 1 + tr_ar t = 0 → md = 2 → ∀ a, (∀ j, j < el + n + 1 → a (rc * 28 + j) = nI (en j)) → (∀ q, q < rc * 28 → a q = pa q) → post 1 (ya, nI TL, nI (rc + 1), yd, ye, 0, nI (n + 1), nI (m - 1 + tr_ar t), yi, a, upd pb rc (nI el), upd pc rc (nI (n + 1)), upd pd rc 0, pe, upd pf (el + n) (nI t), pg))
    (kC : n + m + tr_ar t ≤ tr_lim md TL → m - 1 + tr_ar t = 0 → md = 3 → ∀ a b, tr_la a en (el + n + 1) → (∀ q, q < 12 → b q = 0) → post 1 (ya, nI TL, nI rc, nI (n + 1), 0, 0, nI (n + 1), nI (m - 1 + tr_ar t), yi, pa, pb, pc, b, a, upd pf (el + n) (nI t), pg)) :
    wY_put_121 post (nI t) ya (nI TL) (nI rc) yd ye (nI md) (nI n) (nI m) yi pa pb pc pd pe pf pg := by
  have hA := tr_ar_le (t := t)
  have hL := tr_lim_le (md := md) hTL
  have H2 : n + m + tr_ar t ≤ tr_lim md TL → wY_put_203 post (nI t) (nI (tr_ar t)) (nI (el + n)) ya (nI TL) (nI rc) yd ye (nI md) (nI n) (nI m) yi pa pb pc pd pe pf pg := by
    intro h
    refine ⟨vp_in_nI (by have := hidx (by omega); omega) (by decide), ?_⟩
    rw [nI_clamp (show el + n < 2 ^ 31 by omega)]
    refine nm_e (nm_r (nI_1 _) (nm_r (tr_op2 hm) ?_))
    refine pk_le (m - 1 + tr_ar t) 0 (fun h2 => ?_) (fun h2 => k0 h h2)
    have h0 : m - 1 + tr_ar t = 0 := by omega
    refine pk_eq md 1 (fun e => kA h h0 e) (fun e => pk_eq md 2 (fun e2 => ?_) (fun e2 => ?_))
    · have eL : tr_lim md TL = 16 := by rw [e2]; exact tr_lim2
      have e4 := hyi e2
      subst e4
      exact tr_y269 (n0 := n + 1) (hrl e2) (by omega) hf (fun a ha hb => kB h h0 e2 a ha hb)
    · have e5 := he0 e2
      have hi := hidx (by omega)
      subst e5
      have hf2 : tr_la (upd pf (0 + n) (nI t)) en (n + 1) := by
        rw [Nat.zero_add] at hf ⊢
        exact hf
      exact tr_y363 (es := n + 1) (by omega) hf2 (fun a b ha hb => kC h h0 (by omega) a b (by rw [Nat.zero_add]; exact ha) hb)
  have H : wY_put_157 post (nI t) (nI (tr_ar t)) (nI (tr_lim md TL)) ya (nI TL) (nI rc) yd ye (nI md) (nI n) (nI m) yi pa pb pc pd pe pf pg := by
    refine pk_le (n + m + tr_ar t) (tr_lim md TL) (fun h => ?_) k5 (hx := by rw [nI_add, nI_add])
    have H3 := H2 h
    refine pk_eq md 2 (fun e => ?_) (fun e => ?_)
    · have e4 := hyi e
      rw [← nI_add, ← e4] at H3
      exact H3
    · rw [he0 e, Nat.zero_add] at H3
      exact H3
  unfold wY_put_121
  refine tr_yAr ht ?_
  refine pk_eq md 1 (fun e => ?_) (fun e => pk_eq md 2 (fun e2 => ?_) (fun e2 => ?_))
  · rw [show tr_lim md TL = 12 by rw [e]; exact tr_lim1] at H
    exact H
  · rw [show tr_lim md TL = 16 by rw [e2]; exact tr_lim2] at H
    exact H
  · rw [show tr_lim md TL = TL by rw [show md = 3 by omega]; exact tr_lim3] at H
    exact H
/-- the entry's cells with one more -/
def tr_e1 (en : Nat → Nat) (p t : Nat) : Nat → Nat := fun j => if j = p then t else en j
theorem tr_e1_e {en : Nat → Nat} {p t : Nat} : tr_e1 en p t p = t := if_pos rfl
theorem tr_e1_n {en : Nat → Nat} {p t j : Nat} (h : j ≠ p) : tr_e1 en p t j = en j := if_neg h
theorem tr_e1_24 {en : Nat → Nat} {p t b : Nat} (h : ∀ j, j < p → en j < b) (ht : t < b) : ∀ j, j < p + 1 → tr_e1 en p t j < b := fun j hj => by
  by_cases e : j = p
  · subst e; rw [tr_e1_e]; exact ht
  · rw [tr_e1_n e]; exact h j (by omega)
theorem tr_e1_lin {en : Nat → Nat} {p t : Nat} (h : tr_lin en p) (hV : 16 ≤ t → ∀ j, j < p → en j ≠ t) : tr_lin (tr_e1 en p t) (p + 1) := fun j k hj hk e h16 => by
  by_cases ej : j = p
  · subst ej
    rw [tr_e1_e] at e h16
    by_cases ek : k = j
    · exact ek.symm
    · rw [tr_e1_n ek] at e
      exact absurd e.symm (hV h16 k (by omega))
  · rw [tr_e1_n ej] at e h16
    by_cases ek : k = p
    · subst ek
      rw [tr_e1_e] at e
      exact absurd e (hV (by omega) j (by omega))
    · rw [tr_e1_n ek] at e
      exact h j k (by omega) (by omega) e h16
/-- a variable that may stand there -/
def tr_hv (md n el t : Nat) (en : Nat → Nat) : Prop := 16 ≤ t → (md = 1 ∧ ∀ j, j < n → en j ≠ t) ∨ (md = 2 ∧ ∃ j, j < el ∧ en j = t)
theorem tr_en1 {md TL n m el t : Nat} {en : Nat → Nat} (he : tr_en md TL n m el yi en) (hm : 1 ≤ m) (ht : t < 24) (hV : tr_hv md n el t en) (hs : n + m + tr_ar t ≤ tr_lim md TL) :
    tr_en md TL (n + 1) (m - 1 + tr_ar t) el yi (tr_e1 en (el + n) t) := by
  rcases he with ⟨rfl, rfl, e3, e4, e5⟩ | ⟨rfl, e2, e3, e4, e5, e6, e7⟩ | ⟨rfl, rfl, e3, e4⟩
  · rw [tr_lim1] at hs
    rw [Nat.zero_add]
    refine Or.inl ⟨rfl, rfl, by omega, tr_e1_24 e4 ht, tr_e1_lin e5 fun h16 j hj => ?_⟩
    rcases hV h16 with ⟨-, z⟩ | ⟨z, -⟩
    · exact z j hj
    · omega
  · rw [tr_lim2] at hs
    refine Or.inr (Or.inl ⟨rfl, e2, e3, by omega, tr_e1_24 e5 ht, fun j k hj hk e h16 => ?_, fun j h1 h2 h16 => ?_⟩)
    · rw [tr_e1_n (by omega)] at e h16
      rw [tr_e1_n (by omega)] at e
      exact e6 j k hj hk e h16
    · by_cases ej : j = el + n
      · subst ej
        rw [tr_e1_e] at h16
        rcases hV h16 with ⟨z, -⟩ | ⟨-, q, hq, z⟩
        · omega
        · exact ⟨q, hq, by rw [tr_e1_n (by omega), tr_e1_e]; exact z⟩
      · rw [tr_e1_n ej] at h16
        obtain ⟨q, hq, z⟩ := e7 j h1 (by omega) h16
        exact ⟨q, hq, by rw [tr_e1_n (by omega), tr_e1_n ej]; exact z⟩
  · rw [tr_lim3] at hs
    rw [Nat.zero_add]
    refine Or.inr (Or.inr ⟨rfl, rfl, by omega, tr_e1_24 e4 ?_⟩)
    by_cases h16 : t < 16
    · exact h16
    · rcases hV (by omega) with ⟨z, -⟩ | ⟨z, -⟩ <;> omega
/-- the rules with one more -/
def tr_R2 (R : Nat → TrD) (rc : Nat) (D : TrD) : Nat → TrD := fun q => if q = rc then D else R q
theorem tr_R2_e {R : Nat → TrD} {rc : Nat} {D : TrD} : tr_R2 R rc D rc = D := if_pos rfl
theorem tr_R2_n {R : Nat → TrD} {rc q : Nat} {D : TrD} (h : q ≠ rc) : tr_R2 R rc D q = R q := if_neg h
theorem tr_addR {R : Nat → TrD} {rc l rl : Nat} {c : Nat → Nat} {a a2 : Nat → Int32} (hR : tr_R qa qb qc qd pa pb pc pd R rc) (ok : tr_ok (l, rl, 0, c))
    (hx : ∀ j, j < l + rl → a (rc * 28 + j) = nI (c j)) (hx2 : ∀ q, q < rc * 28 → a q = qa q) (hy : ∀ j, j < l + rl → a2 (rc * 28 + j) = nI (c j)) (hy2 : ∀ q, q < rc * 28 → a2 q = pa q) :
    tr_R a (upd qb rc (nI l)) (upd qc rc (nI (l + rl))) (upd qd rc 0) a2 (upd pb rc (nI l)) (upd pc rc (nI rl)) (upd pd rc 0) (tr_R2 R rc (l, rl, 0, c)) (rc + 1) := by
  intro q hq
  by_cases e : q = rc
  · subst e
    rw [tr_R2_e]
    exact ⟨ok, ⟨pk_us, pk_us, pk_us, hx⟩, ⟨pk_us, pk_us, pk_us, hy⟩⟩
  · obtain ⟨o, ⟨x1, x2, x3, x4⟩, ⟨y1, y2, y3, y4⟩⟩ := hR q (by omega)
    have o1 := o.1
    have o2 := o.2.1
    rw [tr_R2_n e]
    exact ⟨o, ⟨by rw [pk_un e]; exact x1, by rw [pk_un e]; exact x2, by rw [pk_un e]; exact x3, fun j hj => by rw [hx2 _ (by omega)]; exact x4 j hj⟩, ⟨by rw [pk_un e]; exact y1, by rw [pk_un e]; exact y2, by rw [pk_un e]; exact y3, fun j hj => by rw [hy2 _ (by omega)]; exact y4 j hj⟩⟩
/-- the rules with no step made -/
def tr_R0 (R : Nat → TrD) : Nat → TrD := fun q => ((R q).1, (R q).2.1, 0, (R q).2.2.2)
theorem tr_zeroR {R : Nat → TrD} {rc : Nat} {b b2 : Nat → Int32} (hrc : rc ≤ 12) (hR : tr_R qa qb qc qd pa pb pc pd R rc) (hx : ∀ q, q < rc → b q = 0) (hy : ∀ q, q < 12 → b2 q = 0) : tr_R qa qb qc b pa pb pc b2 (tr_R0 R) rc := by
  intro q hq
  obtain ⟨o, ⟨x1, x2, x3, x4⟩, ⟨y1, y2, y3, y4⟩⟩ := hR q hq
  exact ⟨o, ⟨x1, x2, hx q hq, x4⟩, ⟨y1, y2, hy q (by omega), y4⟩⟩
theorem tr_acc {k RL TL rc s md n m el t : Nat} {R : Nat → TrD} {T en : Nat → Nat} {sc : Int32} {Yp : Int32 → SX → Prop} (h : tr_inv RL TL rc s md R T (nI (el + n)) (nI el) (nI m) (nI n) (nI m) yi qa qb qc qd qe qf pa pb pc pd pe pf)
    (h1 : 1 ≤ md) (hm : 1 ≤ m) (hq : tr_la qf en (el + n)) (hf : tr_la pf en (el + n)) (hrc : md = 3 ∨ rc < RL) (he : tr_en md TL n m el yi en) (ht : t < 24) (hV : tr_hv md n el t en)
    (C : ∀ (a : Int32) (u' : SX), (∀ post : Int32 → SY → Prop, (∀ v', i_Rel k u' v' → post a v') → wY_put_121 post (nI t) (nI RL) (nI TL) (nI rc) (nI s) sc (nI md) (nI n) (nI m) yi pa pb pc pd pe pf pg) → Yp a u') :
    wX_put_37 Yp (nI t) (nI RL) (nI TL) (nI rc) (nI s) sc (nI md) (nI (el + n)) (nI el) (nI m) qa qb qc qd qe qf qg qh qi := by
  obtain ⟨b1, b2, b3, b4, b5, b6, b7⟩ := h.1
  have hA := tr_ar_le (t := t)
  have hb : n + m ≤ 64 ∧ el ≤ 12 ∧ (n + 1 ≤ tr_lim md TL → el + n + 1 ≤ 64) ∧ (md = 2 → yi = nI el) ∧ (¬ md = 2 → el = 0) := by
    rcases he with ⟨rfl, rfl, e3, -⟩ | ⟨rfl, e2, e3, e4, -⟩ | ⟨rfl, rfl, e3, -⟩
    · exact ⟨by omega, by omega, fun z => by rw [tr_lim1] at z; omega, fun z => by omega, fun _ => rfl⟩
    · exact ⟨by omega, by omega, fun z => by rw [tr_lim2] at z; omega, fun _ => e2, fun z => by omega⟩
    · exact ⟨by omega, by omega, fun z => by rw [tr_lim3] at z; omega, fun z => by omega, fun _ => rfl⟩
  obtain ⟨c1, c2, c3, c4, c5⟩ := hb
  have hq1 : tr_la (upd qf (el + n) (nI t)) (tr_e1 en (el + n) t) (el + n + 1) := tr_la_put hq
  have hf1 : tr_la (upd pf (el + n) (nI t)) (tr_e1 en (el + n) t) (el + n + 1) := tr_la_put hf
  refine tr_x37 b7 h1 b4 hm c1 c2 (by omega) (fun z => by omega) ht c3 hq1 (fun z => C _ _ fun post hp => ?_) (fun z z0 => C _ _ fun post hp => ?_) (fun z z0 z1 => C _ _ fun post hp => ?_) (fun z z0 z1 a ha ha2 => C _ _ fun post hp => ?_) (fun z z0 z1 a b ha hb => C _ _ fun post hp => ?_)
  · exact tr_y121 b7 h1 b4 hm c1 c2 (by omega) (fun z => by omega) ht c3 hf1 c4 c5 (fun _ => hp _ (tr_mk h)) (fun w => absurd z (by omega)) (fun w => absurd z (by omega)) (fun w => absurd z (by omega)) (fun w => absurd z (by omega))
  · refine tr_y121 b7 h1 b4 hm c1 c2 (by omega) (fun z => by omega) ht c3 hf1 c4 c5 (fun w => absurd z (by omega)) (fun _ _ => hp _ (tr_mk (R := R) (T := T) ?_)) (fun _ w => absurd z0 (by omega)) (fun _ w => absurd z0 (by omega)) (fun _ w => absurd z0 (by omega))
    exact ⟨h.1, h.2.1, h.2.2.1, Or.inr ⟨n + 1, m - 1 + tr_ar t, el, tr_e1 en (el + n) t, rfl, rfl, rfl, rfl, rfl, z0, hq1, hf1, hrc, tr_en1 he hm ht hV z⟩⟩
  · refine tr_y121 b7 h1 b4 hm c1 c2 (by omega) (fun z => by omega) ht c3 hf1 c4 c5 (fun w => absurd z (by omega)) (fun _ w => absurd z0 (by omega)) (fun _ _ _ => hp _ (tr_mk (md := 2) (R := R) (T := T) ?_)) (fun _ _ w => absurd z1 (by omega)) (fun _ _ w => absurd z1 (by omega))
    subst z1
    have hE := tr_en1 he hm ht hV z
    have e0 : el = 0 := c5 (by decide)
    subst e0
    rw [Nat.zero_add] at hq1 hf1 hE ⊢
    rcases hE with ⟨-, -, e3, e4, e5⟩ | ⟨w, -⟩ | ⟨w, -⟩
    · exact ⟨⟨b1, b2, b3, b4, b5, b6, by omega⟩, h.2.1, h.2.2.1, Or.inr ⟨0, 1, n + 1, tr_e1 en n t, rfl, rfl, rfl, rfl, rfl, Nat.le_refl _, hq1, hf1, Or.inr (by omega), Or.inr (Or.inl ⟨rfl, rfl, by omega, by decide, e4, e5, fun j w1 w2 => by omega⟩)⟩⟩
    · omega
    · omega
  · refine tr_y121 b7 h1 b4 hm c1 c2 (by omega) (fun z => by omega) ht c3 hf1 c4 c5 (fun w => absurd z (by omega)) (fun _ w => absurd z0 (by omega)) (fun _ _ w => absurd z1 (by omega)) (fun _ _ _ a2 hy hy2 => hp _ (tr_mk (md := 0) (R := tr_R2 R rc (el, n + 1, 0, tr_e1 en (el + n) t)) (T := T) ?_)) (fun _ _ w => absurd z1 (by omega))
    subst z1
    have hE := tr_en1 he hm ht hV z
    rcases hE with ⟨w, -⟩ | ⟨-, e2, e3, e4, e5, e6, e7⟩ | ⟨w, -⟩
    · omega
    · exact ⟨⟨b1, b2, b3, b4, by omega, b6, by omega⟩, tr_addR h.2.1 ⟨e3, show n + 1 ≤ 16 by omega, e5, e6, e7⟩ ha ha2 hy hy2, h.2.2.1, Or.inl rfl⟩
    · omega
  · refine tr_y121 b7 h1 b4 hm c1 c2 (by omega) (fun z => by omega) ht c3 hf1 c4 c5 (fun w => absurd z (by omega)) (fun _ w => absurd z0 (by omega)) (fun _ _ w => absurd z1 (by omega)) (fun _ _ w => absurd z1 (by omega)) (fun _ _ _ a2 b2' hy hy2 => hp _ ?_)
    subst z1
    have hE := tr_en1 he hm ht hV z
    have e0 : el = 0 := c5 (by decide)
    subst e0
    rw [Nat.zero_add] at ha hy hE ⊢
    refine tr_mk (md := 0) (R := tr_R0 R) (T := tr_e1 en n t) ?_
    rcases hE with ⟨w, -⟩ | ⟨w, -⟩ | ⟨-, -, e3, e4⟩
    · omega
    · omega
    · exact ⟨⟨b1, b2, b3, b4, b5, by omega, by omega⟩, tr_zeroR (by omega) h.2.1 hb hy2, ⟨ha, hy, e4⟩, Or.inl rfl⟩
theorem i_vc_put {k : Nat} {u : SX} {v : SY} (I : i_Rel k u v) (hk : k + 3 ≤ 1538) (v1 : Int32) : wpX_put (fun r u' => wpY_put (fun r' v' => r' = r ∧ i_Rel (k + 3) u' v') v v1) u v1 := by
  have J := i_up I
  obtain ⟨RL, TL, rc, s, md, R, T, sc, xg, xh, xi, yg, yh, yi, qa, qb, qc, qd, qe, qf, qg, qh, qi, pa, pb, pc, pd, pe, pf, pg, rfl, rfl, h⟩ := I
  have hb := h.1
  by_cases h0 : md = 0
  · subst h0
    exact br_t rfl (br_t rfl ⟨rfl, J⟩)
  have h0' := nI_ne0 (n := md) (by omega) (by omega)
  rcases pk_ix v1 (n := 24) (by decide) with z | z | ⟨t, ht, rfl⟩
  · exact br_f h0' (br_t z (br_f h0' (br_t z ⟨rfl, J⟩)))
  · have z0 : ¬ v1 < 0 := tr_ge0 (n := 24) (by decide) z
    have z1 : ¬ v1 ≤ 23 := fun w => nI_ge (a := 23) (b := 24) (by decide) (by decide) (Int32.le_trans z w)
    exact br_f h0' (br_f z0 (br_f z1 (br_f h0' (br_f z0 (br_f z1 ⟨rfl, J⟩)))))
  have z0 : ¬ nI t < 0 := nI_pos (by omega)
  have z1 : nI t ≤ 23 := nI_le (b := 23) (by omega) (by decide)
  have hent := h.2.2.2
  rcases hent with w | ⟨n, m, el, en, rfl, rfl, rfl, rfl, rfl, hm, hq, hf, hrc, he⟩
  · exact absurd w h0
  by_cases h16 : t < 16
  · have z2 : nI t < 16 := nI_lt (b := 16) h16 (by decide)
    exact br_f h0' (br_f z0 (br_t z1 (br_t z2 (tr_acc (k := k + 3) h (by omega) hm hq hf hrc he ht (fun w => absurd w (by omega)) (fun a u' H => br_f h0' (br_f z0 (br_t z1 (br_t z2 (H _ fun v' hv => ⟨rfl, hv⟩)))))))))
  · have z2 : ¬ nI t < 16 := nI_nlt (b := 16) (by omega) (by omega)
    refine br_f h0' (br_f z0 (br_t z1 (br_f z2 ?_)))
    have he2 := he
    rcases he2 with ⟨rfl, rfl, e3, e4, e5⟩ | ⟨rfl, e2, e3, e4, e5, e6, e7⟩ | ⟨rfl, rfl, e3, e4⟩
    · have hq' : tr_la qf en n := fun j hj => hq j (by omega)
      have hf' : tr_la pf en n := fun j hj => hf j (by omega)
      have n31 : ¬ nI 1 = 3 := by decide
      have n11 : nI 1 = 1 := rfl
      unfold wpX_variableMayStand
      refine br_t n11 (pk_le (0 + n) 0 (fun w => ?_) (fun w => ?_))
      · exact br_t rfl (br_f h0' (br_f z0 (br_t z1 (br_f z2 (br_f n31 (br_t n11 (pk_eq n 0 (fun _ => ⟨rfl, J⟩) (fun y => absurd w (by omega)))))))))
      · have hY : ∀ post : Int32 → SY → Prop, ((∃ j, j < n ∧ en j = t) → post 4 (nI RL, nI TL, nI rc, nI s, sc, nI 1, nI n, nI m, yi, pa, pb, pc, pd, pe, pf, pg)) → ((∀ j, j < n → en j ≠ t) → wY_put_121 post (nI t) (nI RL) (nI TL) (nI rc) (nI s) sc (nI 1) (nI n) (nI m) yi pa pb pc pd pe pf pg) →
            wpY_put post (nI RL, nI TL, nI rc, nI s, sc, nI 1, nI n, nI m, yi, pa, pb, pc, pd, pe, pf, pg) (nI t) := by
          intro post k1 k0
          refine br_f h0' (br_f z0 (br_t z1 (br_f z2 (br_f n31 (br_t n11 (pk_eq n 0 (fun y => absurd w (by omega)) (fun _ => br_t n11 ⟨n + 1, ?_⟩)))))))
          exact (tr_y77 (by omega) hf' ht e4 (fun y => br_t n11 (k1 y)) (fun y => br_t n11 (k0 y)) (n + 1) 0 (by omega) (Nat.zero_le _)).2 fun i hi => absurd hi (Nat.not_lt_zero _)
        refine tr_xM (by omega) hq ht (fun j hj => e4 j (by omega)) (fun y => ?_) (fun y => ?_)
        · obtain ⟨j, hj, e⟩ := y
          exact br_f (by decide) (br_t rfl (hY _ (fun _ => ⟨rfl, J⟩) (fun y2 => absurd e (y2 j (by omega)))))
        · refine br_t rfl (br_f (by decide) ?_)
          exact tr_acc (k := k + 3) h (by omega) hm hq hf hrc he ht (fun _ => Or.inl ⟨rfl, fun j hj => y j (by omega)⟩) (fun a u' H => hY _ (fun ⟨j, hj, e⟩ => absurd e (y j (by omega))) (fun _ => H _ fun v' hv => ⟨rfl, hv⟩))
    · have n21 : ¬ nI 2 = 1 := by decide
      have n23 : ¬ nI 2 = 3 := by decide
      have n22 : nI 2 = 2 := rfl
      subst e2
      have hfl : tr_la pf en el := fun j hj => hf j (by omega)
      have hql : tr_la qf en el := fun j hj => hq j (by omega)
      have e4l : ∀ j, j < el → en j < 24 := fun j hj => e5 j (by omega)
      have hY : ∀ post : Int32 → SY → Prop, ((∀ j, j < el → en j ≠ t) → post 4 (nI RL, nI TL, nI rc, nI s, sc, nI 2, nI n, nI m, nI el, pa, pb, pc, pd, pe, pf, pg)) → ((∃ j, j < el ∧ en j = t) → wY_put_121 post (nI t) (nI RL) (nI TL) (nI rc) (nI s) sc (nI 2) (nI n) (nI m) (nI el) pa pb pc pd pe pf pg) →
          wpY_put post (nI RL, nI TL, nI rc, nI s, sc, nI 2, nI n, nI m, nI el, pa, pb, pc, pd, pe, pf, pg) (nI t) := by
        intro post k1 k0
        refine br_f h0' (br_f z0 (br_t z1 (br_f z2 (br_f n23 (br_f n21 (br_f n21 ⟨el + 1, ?_⟩))))))
        exact (tr_y77 (by omega) hfl ht e4l (fun y => br_f n21 (k0 y)) (fun y => br_f n21 (k1 y)) (el + 1) 0 (by omega) (Nat.zero_le _)).2 fun i hi => absurd hi (Nat.not_lt_zero _)
      unfold wpX_variableMayStand
      refine br_f n21 (br_t n22 (tr_xM (by omega) hql ht e4l (fun y => br_f (by decide) (br_f (by decide) ?_)) (fun y => br_t rfl (br_t rfl (hY _ (fun _ => ⟨rfl, J⟩) (fun y2 => ?_))))))
      · refine tr_acc (k := k + 3) h (by omega) hm hq hf hrc he ht (fun _ => Or.inr ⟨rfl, y⟩) (fun a u' H => hY _ (fun y2 => ?_) (fun _ => H _ fun v' hv => ⟨rfl, hv⟩))
        obtain ⟨j, hj, e⟩ := y
        exact absurd e (y2 j hj)
      · obtain ⟨j, hj, e⟩ := y2
        exact absurd e (y j hj)
    · have n31 : ¬ nI 3 = 1 := by decide
      have n32 : ¬ nI 3 = 2 := by decide
      have n33 : nI 3 = 3 := rfl
      unfold wpX_variableMayStand
      exact br_f n31 (br_f n32 (br_t rfl (br_f h0' (br_f z0 (br_t z1 (br_f z2 (br_t n33 ⟨rfl, J⟩)))))))
end TRK
