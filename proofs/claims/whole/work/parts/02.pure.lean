section TRB
/-! the pure picture: extents, positions of a left side, the walk, the first that .. -/
def tr_ex (T : Nat → Nat) : Nat → Nat → Nat → Nat
  | 0, _, e => e
  | f + 1, o, e => if o = 0 then e else tr_ex T f (o - 1 + T e / 4) (e + 1)
theorem tr_ex0 {T : Nat → Nat} {f e : Nat} : tr_ex T f 0 e = e := by
  cases f with
  | zero => rfl
  | succ f => exact if_pos rfl
theorem tr_exS {T : Nat → Nat} {f o e : Nat} (h : o ≠ 0) : tr_ex T (f + 1) o e = tr_ex T f (o - 1 + T e / 4) (e + 1) := if_neg h
theorem tr_ex_le (T : Nat → Nat) : ∀ f o e : Nat, e ≤ tr_ex T f o e ∧ tr_ex T f o e ≤ e + f := by
  intro f
  induction f with
  | zero => intro o e; exact ⟨Nat.le_refl _, Nat.le_refl _⟩
  | succ f ih =>
    intro o e
    by_cases h : o = 0
    · subst h; rw [tr_ex0]; omega
    · rw [tr_exS h]
      have := ih (o - 1 + T e / 4) (e + 1)
      omega
def tr_E (T : Nat → Nat) (s i : Nat) : Nat := tr_ex T (s - i) 1 i - i
theorem tr_E_le (T : Nat → Nat) {s i : Nat} (h : i ≤ s) : i + tr_E T s i ≤ s := by
  have := tr_ex_le T (s - i) 1 i
  unfold tr_E
  omega
def tr_ps (c T : Nat → Nat) (s i : Nat) : Nat → Nat
  | 0 => i
  | j + 1 => tr_ps c T s i j + (if c j < 16 then 1 else tr_E T s (tr_ps c T s i j))
theorem tr_ps_s {c T : Nat → Nat} {s i j : Nat} (h : c j < 16) : tr_ps c T s i (j + 1) = tr_ps c T s i j + 1 := by
  rw [tr_ps, if_pos h]
theorem tr_ps_v {c T : Nat → Nat} {s i j : Nat} (h : ¬ c j < 16) : tr_ps c T s i (j + 1) = tr_ps c T s i j + tr_E T s (tr_ps c T s i j) := by
  rw [tr_ps, if_neg h]
def tr_cn (c T : Nat → Nat) (s i j : Nat) : Prop := tr_ps c T s i j < s ∧ (c j < 16 → T (tr_ps c T s i j) = c j)
def tr_ap (c T : Nat → Nat) (s i n : Nat) : Prop := ∀ j, j < n → tr_cn c T s i j
theorem tr_ps_le {c T : Nat → Nat} {s i j : Nat} (h : tr_ps c T s i j < s) : tr_ps c T s i (j + 1) ≤ s := by
  by_cases h2 : c j < 16
  · rw [tr_ps_s h2]; omega
  · rw [tr_ps_v h2]; exact tr_E_le T (by omega)
theorem tr_ap_le {c T : Nat → Nat} {s i n : Nat} (h : tr_ap c T s i n) (hi : i ≤ s) {j : Nat} (hj : j ≤ n) : tr_ps c T s i j ≤ s := by
  cases j with
  | zero => exact hi
  | succ j => exact tr_ps_le (h j (by omega)).1
noncomputable def tr_wr (c T : Nat → Nat) (s i : Nat) (st : Int32) : Nat → Nat → Int32
  | 0, j => nI (tr_ps c T s i j)
  | n + 1, j => if nI (c j) = st then nI (tr_ps c T s i j) else @ite _ (tr_cn c T s i j) (Classical.propDecidable _) (tr_wr c T s i st n (j + 1)) (-1)
theorem tr_wr_e {c T : Nat → Nat} {s i n j : Nat} {st : Int32} (h : nI (c j) = st) : tr_wr c T s i st (n + 1) j = nI (tr_ps c T s i j) := if_pos h
theorem tr_wr_t {c T : Nat → Nat} {s i n j : Nat} {st : Int32} (h : ¬ nI (c j) = st) (hc : tr_cn c T s i j) : tr_wr c T s i st (n + 1) j = tr_wr c T s i st n (j + 1) := (if_neg h).trans (if_pos hc)
theorem tr_wr_f {c T : Nat → Nat} {s i n j : Nat} {st : Int32} (h : ¬ nI (c j) = st) (hc : ¬ tr_cn c T s i j) : tr_wr c T s i st (n + 1) j = -1 := (if_neg h).trans (if_neg hc)
theorem tr_wr_ap {c T : Nat → Nat} {s i l : Nat} {st : Int32} (hs : ∀ j, j < l → ¬ nI (c j) = st) (ha : tr_ap c T s i l) : ∀ n j : Nat, n + j = l → tr_wr c T s i st n j = nI (tr_ps c T s i l) := by
  intro n
  induction n with
  | zero => intro j h; have e : j = l := by omega
            subst e; rfl
  | succ n ih => intro j h; rw [tr_wr_t (hs j (by omega)) (ha j (by omega))]; exact ih (j + 1) (by omega)
theorem tr_wr_na {c T : Nat → Nat} {s i l : Nat} {st : Int32} (hs : ∀ j, j < l → ¬ nI (c j) = st) : ∀ n j : Nat, n + j = l → ¬ (∀ k, j ≤ k → k < l → tr_cn c T s i k) → tr_wr c T s i st n j = -1 := by
  intro n
  induction n with
  | zero => intro j h ha; exact (ha (fun k h1 h2 => by omega)).elim
  | succ n ih =>
    intro j h ha
    by_cases hc : tr_cn c T s i j
    · rw [tr_wr_t (hs j (by omega)) hc]
      refine ih (j + 1) (by omega) fun hk => ha fun k h1 h2 => ?_
      by_cases e : k = j
      · subst e; exact hc
      · exact hk k (by omega) h2
    · exact tr_wr_f (hs j (by omega)) hc
theorem tr_wr_v {c T : Nat → Nat} {s i l t j0 : Nat} (ht : t < 2 ^ 31) (hc : ∀ j, j < l → c j < 2 ^ 31) (hj : j0 < l) (e0 : c j0 = t) (hn : ∀ j, j < l → c j = t → j = j0) (ha : tr_ap c T s i l) : ∀ n j : Nat, n + j = l → j ≤ j0 → tr_wr c T s i (nI t) n j = nI (tr_ps c T s i j0) := by
  intro n
  induction n with
  | zero => intro j h h2; omega
  | succ n ih =>
    intro j h h2
    by_cases e : j = j0
    · subst e; exact tr_wr_e (by rw [e0])
    · rw [tr_wr_t (fun z => e (hn j (by omega) ((nI_eq (hc j (by omega)) ht).mp z))) (ha j (by omega))]
      exact ih (j + 1) (by omega) (by omega)
/-- the first of r, .., r + n - 1 that is p -/
noncomputable def tr_fr (p : Nat → Prop) : Nat → Nat → Option Nat
  | 0, _ => none
  | n + 1, r => @ite _ (p r) (Classical.propDecidable _) (some r) (tr_fr p n (r + 1))
theorem tr_fr_t {p : Nat → Prop} {n r : Nat} (h : p r) : tr_fr p (n + 1) r = some r := if_pos h
theorem tr_fr_f {p : Nat → Prop} {n r : Nat} (h : ¬ p r) : tr_fr p (n + 1) r = tr_fr p n (r + 1) := if_neg h
theorem tr_fr_some {p : Nat → Prop} {x : Nat} : ∀ n r : Nat, tr_fr p n r = some x → r ≤ x ∧ x < r + n ∧ p x ∧ ∀ y, r ≤ y → y < x → ¬ p y := by
  intro n
  induction n with
  | zero => intro r h; exact nomatch (show (none : Option Nat) = some x from h)
  | succ n ih =>
    intro r h
    by_cases hp : p r
    · rw [tr_fr_t hp] at h
      cases h
      exact ⟨Nat.le_refl _, by omega, hp, fun y h1 h2 => by omega⟩
    · rw [tr_fr_f hp] at h
      obtain ⟨h1, h2, h3, h4⟩ := ih (r + 1) h
      refine ⟨by omega, by omega, h3, fun y h5 h6 => ?_⟩
      by_cases e : y = r
      · subst e; exact hp
      · exact h4 y (by omega) h6
theorem tr_fr_none {p : Nat → Prop} : ∀ n r : Nat, tr_fr p n r = none → ∀ y, r ≤ y → y < r + n → ¬ p y := by
  intro n
  induction n with
  | zero => intro r h y h1 h2; omega
  | succ n ih =>
    intro r h y h1 h2
    by_cases hp : p r
    · rw [tr_fr_t hp] at h; exact nomatch h
    · rw [tr_fr_f hp] at h
      by_cases e : y = r
      · subst e; exact hp
      · exact ih (r + 1) h y (by omega) (by omega)
/-- the rules: left cells, right cells, used, the cells -/
abbrev TrD : Type := Nat × Nat × Int32 × (Nat → Nat)
def tr_ok (d : TrD) : Prop := d.1 ≤ 12 ∧ d.2.1 ≤ 16 ∧ (∀ j, j < d.1 + d.2.1 → d.2.2.2 j < 24) ∧ (∀ j k, j < d.1 → k < d.1 → d.2.2.2 j = d.2.2.2 k → 16 ≤ d.2.2.2 j → j = k) ∧ (∀ j, d.1 ≤ j → j < d.1 + d.2.1 → 16 ≤ d.2.2.2 j → ∃ k, k < d.1 ∧ d.2.2.2 k = d.2.2.2 j)
noncomputable def tr_ra (R : Nat → TrD) (rc : Nat) (T : Nat → Nat) (s i : Nat) : Option Nat := tr_fr (fun r => tr_ap (R r).2.2.2 T s i (R r).1) rc 0
def tr_rd (R : Nat → TrD) (rc : Nat) (T : Nat → Nat) (s i : Nat) : Prop := tr_ra R rc T s i ≠ none
/-- the nearest redex from i on, else s -/
noncomputable def tr_nr (p : Nat → Prop) (s i : Nat) : Nat := (tr_fr p (s - i) i).getD s
theorem tr_nr_s {p : Nat → Prop} {s : Nat} : tr_nr p s s = s := by
  unfold tr_nr; rw [Nat.sub_self, tr_fr, Option.getD_none]
theorem tr_nr_t {p : Nat → Prop} {s i : Nat} (hi : i < s) (h : p i) : tr_nr p s i = i := by
  unfold tr_nr
  obtain ⟨f, hf⟩ : ∃ f, s - i = f + 1 := ⟨s - i - 1, by omega⟩
  rw [hf, tr_fr_t h, Option.getD_some]
theorem tr_nr_f {p : Nat → Prop} {s i : Nat} (hi : i < s) (h : ¬ p i) : tr_nr p s i = tr_nr p s (i + 1) := by
  unfold tr_nr
  obtain ⟨f, hf⟩ : ∃ f, s - i = f + 1 := ⟨s - i - 1, by omega⟩
  rw [hf, tr_fr_f h, show s - (i + 1) = f from by omega]
theorem tr_nr_ge {p : Nat → Prop} {s i e : Nat} (he : e ≤ s) : e ≤ tr_nr p s i ↔ ∀ y, i ≤ y → y < e → ¬ p y := by
  unfold tr_nr
  cases hx : tr_fr p (s - i) i with
  | none =>
    have h := tr_fr_none _ _ hx
    exact ⟨fun _ y h1 h2 => h y h1 (by omega), fun _ => he⟩
  | some x =>
    obtain ⟨h1, h2, h3, h4⟩ := tr_fr_some _ _ hx
    constructor
    · intro (h : e ≤ x) y h5 h6
      exact h4 y h5 (by omega)
    · intro h
      show e ≤ x
      by_cases z : x < e
      · exact absurd h3 (h x h1 z)
      · omega
theorem tr_nr_le {p : Nat → Prop} {s i : Nat} (h : i ≤ s) : tr_nr p s i ≤ s := by
  unfold tr_nr
  cases hx : tr_fr p (s - i) i with
  | none => exact Nat.le_refl _
  | some x =>
    have := tr_fr_some _ _ hx
    show x ≤ s
    omega
def tr_in (p : Nat → Prop) (T : Nat → Nat) (s i : Nat) : Prop := p i ∧ i + tr_E T s i ≤ tr_nr p s (i + 1)
/-- the next redex -/
noncomputable def tr_nx (R : Nat → TrD) (rc : Nat) (T : Nat → Nat) (s : Nat) : Option Nat := tr_fr (tr_in (tr_rd R rc T s) T s) s 0
/-! lists: what the next term is built of -/
def tr_sg (T : Nat → Nat) (p : Nat) : Nat → List Nat
  | 0 => []
  | n + 1 => tr_sg T p n ++ [T (p + n)]
theorem tr_sg_0 {T : Nat → Nat} {p : Nat} : tr_sg T p 0 = [] := rfl
theorem tr_sg_s {T : Nat → Nat} {p n : Nat} : tr_sg T p (n + 1) = tr_sg T p n ++ [T (p + n)] := rfl
theorem tr_sg_len (T : Nat → Nat) (p : Nat) : ∀ n, (tr_sg T p n).length = n := by
  intro n
  induction n with
  | zero => rfl
  | succ n ih => rw [tr_sg_s, List.length_append, ih]; rfl
def tr_ct (T c B : Nat → Nat) (s l : Nat) : Nat → List Nat
  | 0 => []
  | k + 1 => tr_ct T c B s l k ++ (if c (l + k) < 16 then [c (l + k)] else tr_sg T (B (c (l + k))) (tr_E T s (B (c (l + k)))))
theorem tr_ct_s {T c B : Nat → Nat} {s l k : Nat} (h : c (l + k) < 16) : tr_ct T c B s l (k + 1) = tr_ct T c B s l k ++ [c (l + k)] := by
  rw [tr_ct, if_pos h]
theorem tr_ct_v {T c B : Nat → Nat} {s l k : Nat} (h : ¬ c (l + k) < 16) : tr_ct T c B s l (k + 1) = tr_ct T c B s l k ++ tr_sg T (B (c (l + k))) (tr_E T s (B (c (l + k)))) := by
  rw [tr_ct, if_neg h]
def tr_hl (a : Nat → Int32) (L : List Nat) : Prop := tr_la a (fun q => L.getD q 0) L.length
theorem tr_hl_0 {a : Nat → Int32} : tr_hl a [] := fun _ h => absurd h (Nat.not_lt_zero _)
theorem tr_getD_l {L M : List Nat} {q : Nat} (h : q < L.length) : (L ++ M).getD q 0 = L.getD q 0 := by
  rw [List.getD_eq_getElem?_getD, List.getD_eq_getElem?_getD, List.getElem?_append_left h]
theorem tr_getD_e {L : List Nat} {x : Nat} : (L ++ [x]).getD L.length 0 = x := by
  rw [List.getD_eq_getElem?_getD, List.getElem?_append_right (Nat.le_refl _), Nat.sub_self]; rfl
theorem tr_hl_put {a : Nat → Int32} {L : List Nat} {x : Nat} (h : tr_hl a L) : tr_hl (upd a L.length (nI x)) (L ++ [x]) := by
  intro q hq
  rw [List.length_append] at hq
  by_cases e : q = L.length
  · subst e
    show _ = nI ((L ++ [x]).getD L.length 0)
    rw [pk_us, tr_getD_e]
  · have hq' : q < L.length := by
      have : ([x] : List Nat).length = 1 := rfl
      omega
    show _ = nI ((L ++ [x]).getD q 0)
    rw [pk_un e, tr_getD_l hq']
    exact h q hq'
def tr_16 (L : List Nat) : Prop := ∀ x, x ∈ L → x < 16
theorem tr_16_0 : tr_16 [] := fun _ h => nomatch h
theorem tr_16_a {L M : List Nat} (h : tr_16 L) (h2 : tr_16 M) : tr_16 (L ++ M) := fun x hx => by
  rcases List.mem_append.mp hx with z | z
  · exact h x z
  · exact h2 x z
theorem tr_16_1 {x : Nat} (h : x < 16) : tr_16 [x] := fun y hy => by
  rw [List.mem_singleton] at hy; omega
theorem tr_16_sg {T : Nat → Nat} {s p : Nat} (hT : ∀ j, j < s → T j < 16) : ∀ n, p + n ≤ s → tr_16 (tr_sg T p n) := by
  intro n
  induction n with
  | zero => intro _; exact tr_16_0
  | succ n ih => intro h; exact tr_16_a (ih (by omega)) (tr_16_1 (hT _ (by omega)))
theorem tr_16_get {L : List Nat} (h : tr_16 L) {q : Nat} (hq : q < L.length) : L.getD q 0 < 16 := by
  rw [List.getD_eq_getElem?_getD, List.getElem?_eq_getElem hq]
  exact h _ (List.getElem_mem hq)
end TRB
