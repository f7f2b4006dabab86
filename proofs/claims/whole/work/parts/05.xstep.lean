section TRE
variable {xa xb xc xd xe xf xg xh xi ya yb yc yd ye yf yg yh yi : Int32} {qa qb qc qd qe qf qg qh qi pa pb pc pd pe pf pg : Nat → Int32}
/-! one step of the component -/
/-- a position for each variable of the left side -/
theorem tr_B {c T : Nat → Nat} {s i l : Nat} (hlin : ∀ j k, j < l → k < l → c j = c k → 16 ≤ c j → j = k) : ∀ n, n ≤ l → ∃ B : Nat → Nat, ∀ j, j < n → 16 ≤ c j → B (c j) = tr_ps c T s i j := by
  intro n
  induction n with
  | zero => intro _; exact ⟨fun _ => 0, fun j h => absurd h (Nat.not_lt_zero _)⟩
  | succ n ih =>
    intro hn
    obtain ⟨B, hB⟩ := ih (by omega)
    refine ⟨fun t => if t = c n then tr_ps c T s i n else B t, fun j hj h16 => ?_⟩
    show (if c j = c n then tr_ps c T s i n else B (c j)) = _
    by_cases e : c j = c n
    · have := hlin j n (by omega) (by omega) e h16
      subst this
      rw [if_pos rfl]
    · rw [if_neg e]
      refine hB j ?_ h16
      by_cases e2 : j = n
      · subst e2; exact absurd rfl e
      · omega
def tr_bd (a b : Nat → Int32) (c T : Nat → Nat) (s i n : Nat) : Prop := ∀ j, j < n → 16 ≤ c j → a (c j - 16) = nI (tr_ps c T s i j) ∧ b (c j - 16) = nI (tr_E T s (tr_ps c T s i j))
theorem tr_xB1 {post : SX → Prop} {c T : Nat → Nat} {s i l r : Nat} (ht : tr_tm qe T s) (hr : r < 12) (hl : l ≤ 12) (hL : qb r = nI l) (hC : ∀ j, j < l → qa (r * 28 + j) = nI (c j)) (h24 : ∀ j, j < l → c j < 24)
    (hlin : ∀ j k, j < l → k < l → c j = c k → 16 ≤ c j → j = k) (ha : tr_ap c T s i l) (hp : ∀ qh qi, tr_bd qh qi c T s i l → post (xa, xb, xc, nI s, xe, xf, xg, xh, xi, qa, qb, qc, qd, qe, qf, qg, qh, qi)) :
    ∀ (n j : Nat) (qh qi : Nat → Int32), l + 1 ≤ n + j → j ≤ l → tr_bd qh qi c T s i j →
    wX_bindVariables_11 post (nI r) (nI (r * 28)) xa xb xc (nI s) xe xf xg xh xi n (nI (tr_ps c T s i j)) (nI j) qa qb qc qd qe qf qg qh qi := by
  have hs := ht.1
  intro n
  induction n with
  | zero => intro j qh qi a b; omega
  | succ n ih =>
    intro j qh qi hn hj hb
    refine ⟨vp_in_nI hr (by decide), ?_⟩
    have eL : qb (nI r).toNatClampNeg = nI l := by rw [nI_clamp (by omega)]; exact hL
    rw [eL]
    refine pk_le l j (fun h => ?_) (fun h => ⟨by rw [nI_add]; exact vp_in_nI (by omega) (by decide), ?_⟩)
    · have e : j = l := by omega
      subst e
      exact hp qh qi hb
    · have hc := h24 j h
      have h2 := (ha j h).1
      have eC : qa (nI (r * 28) + nI j).toNatClampNeg = nI (c j) := by rw [nI_add, nI_clamp (by omega)]; exact hC j h
      rw [eC]
      by_cases h3 : c j < 16
      · refine nm_e (br_t (pk_sneg (b := 16) (by decide) h3) (nm_r (nI_1 _) (nm_r (nI_1 _) ?_)))
        rw [← tr_ps_s h3]
        refine ih (j + 1) qh qi (by omega) (by omega) fun k hk h16 => ?_
        by_cases e : k = j
        · subst e; omega
        · exact hb k (by omega) h16
      · have hE := tr_E_le T (show tr_ps c T s i j ≤ s by omega)
        refine nm_r (e' := nI (c j - 16)) (pk_sub (b := 16) (by omega)) (br_f (nI_pos (by omega)) (tr_xE ht (by omega) ⟨vp_in_nI (by omega) (by decide), ?_⟩))
        rw [nI_clamp (show c j - 16 < 2 ^ 31 by omega)]
        refine nm_e ⟨vp_in_nI (by omega) (by decide), nm_e (nm_r (nI_add _ _) (nm_r (nI_1 _) ?_))⟩
        rw [← tr_ps_v h3]
        refine ih (j + 1) _ _ (by omega) (by omega) fun k hk h16 => ?_
        by_cases e : k = j
        · subst e; rw [pk_us, pk_us]; exact ⟨rfl, rfl⟩
        · have hne : c k - 16 ≠ c j - 16 := fun z => e (hlin k j (by omega) h (by omega) h16)
          rw [pk_un hne, pk_un hne]
          exact hb k (by omega) h16
/-- what the contractum is made of, at hand -/
def tr_cb (a b : Nat → Int32) (c T B : Nat → Nat) (s l rl : Nat) : Prop := ∀ k, k < rl → 16 ≤ c (l + k) → a (c (l + k) - 16) = nI (B (c (l + k))) ∧ b (c (l + k) - 16) = nI (tr_E T s (B (c (l + k)))) ∧ B (c (l + k)) < s
theorem tr_ct_len {c T B : Nat → Nat} {s l rl : Nat} (hs : s ≤ 64) (hB : ∀ k, k < rl → 16 ≤ c (l + k) → B (c (l + k)) < s) : ∀ k, k ≤ rl → (tr_ct T c B s l k).length ≤ 64 * k := by
  intro k
  induction k with
  | zero => intro _; exact Nat.le_refl _
  | succ k ih =>
    intro hk
    have := ih (by omega)
    by_cases h : c (l + k) < 16
    · rw [tr_ct_s h, List.length_append]
      have : [c (l + k)].length = 1 := rfl
      omega
    · rw [tr_ct_v h, List.length_append, tr_sg_len]
      have := tr_E_le T (show B (c (l + k)) ≤ s by have := hB k (by omega) (by omega); omega)
      omega
theorem tr_ct_mono {c T B : Nat → Nat} {s l : Nat} : ∀ d k : Nat, (tr_ct T c B s l k).length ≤ (tr_ct T c B s l (k + d)).length := by
  intro d
  induction d with
  | zero => intro k; exact Nat.le_refl _
  | succ d ih =>
    intro k
    refine Nat.le_trans (ih k) ?_
    rw [show k + (d + 1) = (k + d) + 1 from rfl, tr_ct, List.length_append]
    omega
theorem tr_ct_16 {c T B : Nat → Nat} {s l rl : Nat} (hT : ∀ j, j < s → T j < 16) (hB : ∀ k, k < rl → 16 ≤ c (l + k) → B (c (l + k)) < s) : ∀ k, k ≤ rl → tr_16 (tr_ct T c B s l k) := by
  intro k
  induction k with
  | zero => intro _; exact tr_16_0
  | succ k ih =>
    intro hk
    by_cases h : c (l + k) < 16
    · rw [tr_ct_s h]; exact tr_16_a (ih (by omega)) (tr_16_1 h)
    · rw [tr_ct_v h]
      refine tr_16_a (ih (by omega)) (tr_16_sg hT _ (tr_E_le T ?_))
      have := hB k (by omega) (by omega)
      omega
theorem tr_xS1 {post : Int32 → Prop} {c T B : Nat → Nat} {s l rl r : Nat} (hs : s ≤ 64) (hr : r < 12) (hl : l ≤ 12) (hrl : rl ≤ 16) (hZ : qc r = nI (l + rl)) (hC : ∀ j, j < l + rl → qa (r * 28 + j) = nI (c j)) (h24 : ∀ j, j < l + rl → c j < 24)
    (hB : tr_cb qh qi c T B s l rl) (hp : post (nI (tr_ct T c B s l rl).length)) : ∀ n k : Nat, rl + 1 ≤ n + k → k ≤ rl →
    wX_contractumSize_15 post (nI r) (nI (r * 28)) xa xb xc xd xe xf xg xh xi qa qb qc qd qe qf qg qh qi n (nI (tr_ct T c B s l k).length) (nI (l + k)) := by
  intro n
  induction n with
  | zero => intro k a b; omega
  | succ n ih =>
    intro k hn hk
    refine ⟨vp_in_nI hr (by decide), ?_⟩
    have eZ : qc (nI r).toNatClampNeg = nI (l + rl) := by rw [nI_clamp (by omega)]; exact hZ
    rw [eZ]
    refine pk_le (l + rl) (l + k) (fun h => ?_) (fun h => ⟨by rw [nI_add]; exact vp_in_nI (by omega) (by decide), ?_⟩)
    · have e : k = rl := by omega
      subst e
      exact hp
    · have hc := h24 (l + k) h
      have eC : qa (nI (r * 28) + nI (l + k)).toNatClampNeg = nI (c (l + k)) := by rw [nI_add, nI_clamp (by omega)]; exact hC (l + k) h
      rw [eC]
      by_cases h3 : c (l + k) < 16
      · refine nm_e (br_t (pk_sneg (b := 16) (by decide) h3) (nm_r (nI_1 _) (nm_r (nI_1 _) ?_)))
        have H := ih (k + 1) (by omega) (by omega)
        rw [tr_ct_s h3, List.length_append] at H
        exact H
      · obtain ⟨b1, b2, b3⟩ := hB k (by omega) (by omega)
        refine nm_r (e' := nI (c (l + k) - 16)) (pk_sub (b := 16) (by omega)) (br_f (nI_pos (by omega)) ⟨vp_in_nI (by omega) (by decide), ?_⟩)
        rw [nI_clamp (show c (l + k) - 16 < 2 ^ 31 by omega), b2]
        refine nm_r (nI_add _ _) (nm_r (nI_1 _) ?_)
        have H := ih (k + 1) (by omega) (by omega)
        rw [tr_ct_v h3, List.length_append, tr_sg_len] at H
        exact H
theorem tr_xP1 {post : Int32 → SX → Prop} {T : Nat → Nat} {s p cnt : Nat} {L : List Nat} (ht : tr_tm qe T s) (hp : p + cnt ≤ s) (hL : L.length + cnt ≤ 64)
    (k0 : ∀ qg, tr_hl qg (L ++ tr_sg T p cnt) → post (nI (L.length + cnt)) (xa, xb, xc, xd, xe, xf, xg, xh, xi, qa, qb, qc, qd, qe, qf, qg, qh, qi)) : ∀ (n k : Nat) (qg : Nat → Int32), cnt + 1 ≤ n + k → k ≤ cnt → tr_hl qg (L ++ tr_sg T p k) →
    wX_appendPart_3 post (nI L.length) (nI p) (nI cnt) xa xb xc xd xe xf xg xh xi n (nI k) qa qb qc qd qe qf qg qh qi := by
  have hs := ht.1
  intro n
  induction n with
  | zero => intro k qg a b; omega
  | succ n ih =>
    intro k qg hn hk hh
    refine pk_le cnt k (fun h => ?_) (fun h => ⟨by rw [nI_add]; exact vp_in_nI (by omega) (by decide), by rw [nI_add]; exact vp_in_nI (by omega) (by decide), nm_r (e' := upd qg (L ++ tr_sg T p k).length (nI (T (p + k)))) ?_ (nm_r (nI_1 k) (ih (k + 1) _ (by omega) (by omega) ?_))⟩)
    · have e : k = cnt := by omega
      subst e
      rw [nI_add]
      exact k0 qg hh
    · rw [nI_add, nI_add, nI_clamp (by omega), nI_clamp (by omega), ht.2.1 _ (by omega), List.length_append, tr_sg_len]
    · rw [tr_sg_s, ← List.append_assoc]
      exact tr_hl_put hh
theorem tr_xP {post : Int32 → SX → Prop} {T : Nat → Nat} {s p cnt a : Nat} {L : List Nat} (ht : tr_tm qe T s) (ea : L.length = a) (hp : p + cnt ≤ s) (hL : a + cnt ≤ 64) (hh : tr_hl qg L)
    (k0 : ∀ qg, tr_hl qg (L ++ tr_sg T p cnt) → post (nI (a + cnt)) (xa, xb, xc, xd, xe, xf, xg, xh, xi, qa, qb, qc, qd, qe, qf, qg, qh, qi)) : wpX_appendPart post (xa, xb, xc, xd, xe, xf, xg, xh, xi, qa, qb, qc, qd, qe, qf, qg, qh, qi) (nI a) (nI p) (nI cnt) := by
  subst ea
  exact ⟨cnt + 1, tr_xP1 ht hp hL k0 (cnt + 1) 0 qg (by omega) (Nat.zero_le _) (by rw [tr_sg_0, List.append_nil]; exact hh)⟩
theorem tr_xP0 {post : Int32 → SX → Prop} {T : Nat → Nat} {s cnt : Nat} (ht : tr_tm qe T s) (hp : cnt ≤ s)
    (k0 : ∀ qg, tr_hl qg (tr_sg T 0 cnt) → post (nI cnt) (xa, xb, xc, xd, xe, xf, xg, xh, xi, qa, qb, qc, qd, qe, qf, qg, qh, qi)) : wpX_appendPart post (xa, xb, xc, xd, xe, xf, xg, xh, xi, qa, qb, qc, qd, qe, qf, qg, qh, qi) 0 0 (nI cnt) := by
  have hs := ht.1
  refine tr_xP (T := T) (s := s) (p := 0) (a := 0) (L := []) ht rfl (by omega) (by omega) tr_hl_0 (fun qg hg => ?_)
  rw [Nat.zero_add]
  exact k0 qg hg
theorem tr_xC1 {post : Int32 → SX → Prop} {c T B : Nat → Nat} {s l rl r : Nat} {L : List Nat} (ht : tr_tm qe T s) (hr : r < 12) (hl : l ≤ 12) (hrl : rl ≤ 16) (hZ : qc r = nI (l + rl)) (hC : ∀ j, j < l + rl → qa (r * 28 + j) = nI (c j)) (h24 : ∀ j, j < l + rl → c j < 24)
    (hB : tr_cb qh qi c T B s l rl) (hL : (L ++ tr_ct T c B s l rl).length ≤ 64)
    (k0 : ∀ qg, tr_hl qg (L ++ tr_ct T c B s l rl) → post (nI (L ++ tr_ct T c B s l rl).length) (xa, xb, xc, xd, xe, xf, xg, xh, xi, qa, qb, qc, qd, qe, qf, qg, qh, qi)) : ∀ (n k : Nat) (qg : Nat → Int32), rl + 1 ≤ n + k → k ≤ rl → tr_hl qg (L ++ tr_ct T c B s l k) →
    wX_appendContractum_16 post (nI r) (nI (r * 28)) n (nI (L ++ tr_ct T c B s l k).length) (nI (l + k)) xa xb xc xd xe xf xg xh xi qa qb qc qd qe qf qg qh qi := by
  have hs := ht.1
  rw [List.length_append] at hL
  intro n
  induction n with
  | zero => intro k qg a b; omega
  | succ n ih =>
    intro k qg hn hk hh
    refine ⟨vp_in_nI hr (by decide), ?_⟩
    have eZ : qc (nI r).toNatClampNeg = nI (l + rl) := by rw [nI_clamp (by omega)]; exact hZ
    rw [eZ]
    refine pk_le (l + rl) (l + k) (fun h => ?_) (fun h => ⟨by rw [nI_add]; exact vp_in_nI (by omega) (by decide), ?_⟩)
    · have e : k = rl := by omega
      subst e
      exact k0 qg hh
    · have hc := h24 (l + k) h
      have eC : qa (nI (r * 28) + nI (l + k)).toNatClampNeg = nI (c (l + k)) := by rw [nI_add, nI_clamp (by omega)]; exact hC (l + k) h
      have hm := tr_ct_mono (c := c) (T := T) (B := B) (s := s) (l := l) (rl - (k + 1)) (k + 1)
      rw [show k + 1 + (rl - (k + 1)) = rl by omega] at hm
      rw [eC]
      by_cases h3 : c (l + k) < 16
      · rw [tr_ct_s h3, List.length_append] at hm
        have h1 : [c (l + k)].length = 1 := rfl
        refine nm_e (nm_e (br_t (pk_sneg (b := 16) (by decide) h3) ⟨vp_in_nI (by rw [List.length_append]; omega) (by decide), ?_⟩))
        rw [nI_clamp (show (L ++ tr_ct T c B s l k).length < 2 ^ 31 by rw [List.length_append]; omega)]
        refine nm_e (nm_r (nI_1 _) (nm_r (nI_1 _) ?_))
        have H := ih (k + 1) _ (by omega) (by omega) (by rw [tr_ct_s h3, ← List.append_assoc]; exact tr_hl_put hh)
        rw [tr_ct_s h3, ← List.append_assoc, List.length_append] at H
        exact H
      · obtain ⟨b1, b2, b3⟩ := hB k (by omega) (by omega)
        rw [tr_ct_v h3, List.length_append, tr_sg_len] at hm
        refine nm_e (nm_r (e' := nI (c (l + k) - 16)) (pk_sub (b := 16) (by omega)) (br_f (nI_pos (by omega)) ⟨vp_in_nI (by omega) (by decide), vp_in_nI (by omega) (by decide), ?_⟩))
        rw [nI_clamp (show c (l + k) - 16 < 2 ^ 31 by omega), b1, b2]
        refine tr_xP ht rfl (tr_E_le T (by omega)) (by rw [List.length_append]; omega) hh (fun qg' hh' => nm_r (nI_1 _) ?_)
        have H := ih (k + 1) qg' (by omega) (by omega) (by rw [tr_ct_v h3, ← List.append_assoc]; exact hh')
        rw [tr_ct_v h3, ← List.append_assoc, List.length_append, tr_sg_len] at H
        exact H
theorem tr_xC {post : Int32 → SX → Prop} {c T B : Nat → Nat} {s l rl r a : Nat} {L : List Nat} (ht : tr_tm qe T s) (ea : L.length = a) (hr : r < 12) (hl : l ≤ 12) (hrl : rl ≤ 16) (hQ : qb r = nI l) (hZ : qc r = nI (l + rl)) (hC : ∀ j, j < l + rl → qa (r * 28 + j) = nI (c j)) (h24 : ∀ j, j < l + rl → c j < 24)
    (hB : tr_cb qh qi c T B s l rl) (hL : a + (tr_ct T c B s l rl).length ≤ 64) (hh : tr_hl qg L)
    (k0 : ∀ qg, tr_hl qg (L ++ tr_ct T c B s l rl) → post (nI (a + (tr_ct T c B s l rl).length)) (xa, xb, xc, xd, xe, xf, xg, xh, xi, qa, qb, qc, qd, qe, qf, qg, qh, qi)) : wpX_appendContractum post (xa, xb, xc, xd, xe, xf, xg, xh, xi, qa, qb, qc, qd, qe, qf, qg, qh, qi) (nI a) (nI r) := by
  subst ea
  have e0 : L ++ tr_ct T c B s l 0 = L := List.append_nil L
  have H := tr_xC1 (L := L) (T := T) (B := B) (s := s) (l := l) (rl := rl) (c := c) ht hr hl hrl hZ hC h24 hB (by rw [List.length_append]; exact hL) (fun qg hg => by rw [List.length_append]; exact k0 qg hg) (rl + 1) 0 qg (by omega) (Nat.zero_le _) (by rw [e0]; exact hh)
  rw [e0] at H
  exact nm_r (tr_m28 r) ⟨vp_in_nI hr (by decide), nm_r (by rw [nI_clamp (by omega)]; exact hQ) ⟨rl + 1, H⟩⟩
theorem tr_xB {post : SX → Prop} {c T : Nat → Nat} {s i l r : Nat} (ht : tr_tm qe T s) (hr : r < 12) (hl : l ≤ 12) (hL : qb r = nI l) (hC : ∀ j, j < l → qa (r * 28 + j) = nI (c j)) (h24 : ∀ j, j < l → c j < 24)
    (hlin : ∀ j k, j < l → k < l → c j = c k → 16 ≤ c j → j = k) (ha : tr_ap c T s i l) (hp : ∀ qh qi, tr_bd qh qi c T s i l → post (xa, xb, xc, nI s, xe, xf, xg, xh, xi, qa, qb, qc, qd, qe, qf, qg, qh, qi)) : wpX_bindVariables post (xa, xb, xc, nI s, xe, xf, xg, xh, xi, qa, qb, qc, qd, qe, qf, qg, qh, qi) (nI r) (nI i) :=
  nm_r (tr_m28 r) ⟨l + 1, tr_xB1 ht hr hl hL hC h24 hlin ha hp (l + 1) 0 qh qi (by omega) (Nat.zero_le _) (fun j h => absurd h (Nat.not_lt_zero _))⟩
theorem tr_xS {post : Int32 → Prop} {c T B : Nat → Nat} {s l rl r : Nat} (hs : s ≤ 64) (hr : r < 12) (hl : l ≤ 12) (hrl : rl ≤ 16) (hQ : qb r = nI l) (hZ : qc r = nI (l + rl)) (hC : ∀ j, j < l + rl → qa (r * 28 + j) = nI (c j)) (h24 : ∀ j, j < l + rl → c j < 24)
    (hB : tr_cb qh qi c T B s l rl) (hp : post (nI (tr_ct T c B s l rl).length)) : wpX_contractumSize post (xa, xb, xc, xd, xe, xf, xg, xh, xi, qa, qb, qc, qd, qe, qf, qg, qh, qi) (nI r) :=
  nm_r (tr_m28 r) ⟨vp_in_nI hr (by decide), nm_r (e' := nI l) (by rw [nI_clamp (by omega)]; exact hQ) ⟨rl + 1, tr_xS1 hs hr hl hrl hZ hC h24 hB hp (rl + 1) 0 (by omega) (Nat.zero_le _)⟩⟩
theorem tr_x82 {post : Int32 → SX → Prop} {r : Nat} {L : List Nat} (hr : r < 12) (hL : L.length ≤ 64) (hh : tr_hl qg L)
    (k0 : ∀ qe, tr_hl qe L → post 1 (xa, xb, xc, nI L.length, xe + 1, xf, xg, xh, xi, qa, qb, qc, upd qd r (qd r + 1), qe, qf, qg, qh, qi)) : ∀ (n k : Nat) (qe : Nat → Int32), L.length + 1 ≤ n + k → k ≤ L.length → tr_la qe (fun q => L.getD q 0) k →
    wX_rewriteAt_82 post (nI r) (nI L.length) xa xb xc xd xe xf xg xh xi n (nI k) qa qb qc qd qe qf qg qh qi := by
  intro n
  induction n with
  | zero => intro k qe a b; omega
  | succ n ih =>
    intro k qe hn hk hq
    refine pk_le L.length k (fun h => ?_) (fun h => ⟨vp_in_nI (by omega) (by decide), vp_in_nI (by omega) (by decide), ?_⟩)
    · have e : k = L.length := by omega
      subst e
      refine nm_e ⟨vp_in_nI hr (by decide), vp_in_nI hr (by decide), ?_⟩
      rw [nI_clamp (show r < 2 ^ 31 by omega)]
      exact nm_e (k0 qe hq)
    · rw [nI_clamp (show k < 2 ^ 31 by omega)]
      refine nm_e (nm_r (nI_1 k) (ih (k + 1) _ (by omega) (by omega) fun j hj => ?_))
      by_cases e : j = k
      · subst e; rw [pk_us]; exact hh j h
      · rw [pk_un e]; exact hq j (by omega)
/-- the term after a step -/
def tr_L (T c B : Nat → Nat) (s i l rl : Nat) : List Nat := (tr_sg T 0 i ++ tr_ct T c B s l rl) ++ tr_sg T (i + tr_E T s i) (s - (i + tr_E T s i))
theorem tr_L_len {T c B : Nat → Nat} {s i l rl : Nat} : (tr_L T c B s i l rl).length = i + (tr_ct T c B s l rl).length + (s - (i + tr_E T s i)) := by
  unfold tr_L
  rw [List.length_append, List.length_append, tr_sg_len, tr_sg_len]
theorem tr_xW {post : Int32 → SX → Prop} {T B : Nat → Nat} {s i rc r TL : Nat} {R : Nat → TrD} (ht : tr_tm qe T s) (hTL : TL ≤ 64) (hR : tr_rl qa qb R rc) (hZ : ∀ q, q < rc → qc q = nI ((R q).1 + (R q).2.1)) (hi : i < s) (hra : tr_ra R rc T s i = some r)
    (hB : ∀ j, j < (R r).1 → 16 ≤ (R r).2.2.2 j → B ((R r).2.2.2 j) = tr_ps (R r).2.2.2 T s i j)
    (k1 : (tr_L T (R r).2.2.2 B s i (R r).1 (R r).2.1).length ≤ TL → ∀ qe qg qh qi, tr_hl qe (tr_L T (R r).2.2.2 B s i (R r).1 (R r).2.1) → post 1 (xa, nI TL, nI rc, nI (tr_L T (R r).2.2.2 B s i (R r).1 (R r).2.1).length, xe + 1, xf, xg, xh, xi, qa, qb, qc, upd qd r (qd r + 1), qe, qf, qg, qh, qi))
    (k0 : TL < (tr_L T (R r).2.2.2 B s i (R r).1 (R r).2.1).length → ∀ qh qi, post 0 (xa, nI TL, nI rc, nI s, xe, xf, xg, xh, xi, qa, qb, qc, qd, qe, qf, qg, qh, qi)) : wpX_rewriteAt post (xa, nI TL, nI rc, nI s, xe, xf, xg, xh, xi, qa, qb, qc, qd, qe, qf, qg, qh, qi) (nI i) := by
  have hs := ht.1
  have hrc := hR.1
  have hr := tr_ra_lt hra
  obtain ⟨ok, hQ, hC⟩ := hR.2 r hr
  have hap := (tr_fr_some _ _ hra).2.2.1
  have hE := tr_E_le T (show i ≤ s by omega)
  have hrl := ok.2.1
  have hLl := tr_L_len (T := T) (c := (R r).2.2.2) (B := B) (s := s) (i := i) (l := (R r).1) (rl := (R r).2.1)
  unfold wpX_rewriteAt
  refine tr_xR ht hR hi ?_
  rw [hra, tr_oi_s]
  refine tr_xE ht (by omega) ?_
  refine tr_xB ht (by omega) ok.1 hQ (fun j hj => hC j (by omega)) (fun j hj => ok.2.2.1 j (by omega)) ok.2.2.2.1 hap (fun qh qi hb => ?_)
  have hcb : tr_cb qh qi (R r).2.2.2 T B s (R r).1 (R r).2.1 := fun k hk h16 => by
    obtain ⟨j, hj, e⟩ := ok.2.2.2.2 ((R r).1 + k) (by omega) (by omega) h16
    rw [← e] at h16 ⊢
    rw [hB j hj h16]
    exact ⟨(hb j hj h16).1, (hb j hj h16).2, (hap j hj).1⟩
  have hlen := tr_ct_len (T := T) (c := (R r).2.2.2) (B := B) (l := (R r).1) (rl := (R r).2.1) hs (fun k hk h16 => (hcb k hk h16).2.2) (R r).2.1 (Nat.le_refl _)
  refine tr_xS hs (by omega) ok.1 ok.2.1 hQ (hZ r hr) hC ok.2.2.1 hcb ?_
  refine pk_le (s - tr_E T s i + (tr_ct T (R r).2.2.2 B s (R r).1 (R r).2.1).length) TL (fun h => ?_) (fun h => k0 (by omega) qh qi) (hx := by rw [pk_sub (by omega), nI_add])
  refine nm_r (nI_add _ _) ?_
  refine tr_xP0 ht (by omega) (fun qg hg => ?_)
  refine tr_xC ht (tr_sg_len T 0 i) (by omega) ok.1 ok.2.1 hQ (hZ r hr) hC ok.2.2.1 hcb (by omega) hg (fun qg2 hg2 => ?_)
  dsimp only
  rw [pk_sub hE]
  refine tr_xP ht (by rw [List.length_append, tr_sg_len]) (by omega) (by omega) hg2 (fun qg3 hg3 => ?_)
  dsimp only
  rw [← hLl]
  exact ⟨_, tr_x82 (L := tr_L T (R r).2.2.2 B s i (R r).1 (R r).2.1) (by omega) (by omega) hg3 (fun qe2 hh => k1 (by omega) qe2 qg3 qh qi hh) ((tr_L T (R r).2.2.2 B s i (R r).1 (R r).2.1).length + 1) 0 qe (by omega) (Nat.zero_le _) (fun j h => absurd h (Nat.not_lt_zero _))⟩
end TRE
