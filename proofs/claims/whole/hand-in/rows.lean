section
section TRA
/-! numbers and stores: the pk_ rows are the kit's rows to paste -/
theorem pk_us {f : Nat → Int32} {k : Nat} {x : Int32} : upd f k x k = x := if_pos rfl
theorem pk_un {f : Nat → Int32} {k j : Nat} {x : Int32} (h : j ≠ k) : upd f k x j = f j := if_neg h
theorem pk_sub {a b : Nat} (h : b ≤ a) : nI a - nI b = nI (a - b) := by
  obtain ⟨c, rfl⟩ : ∃ c, a = c + b := ⟨a - b, by omega⟩
  rw [← nI_add, Int32.add_sub_cancel, Nat.add_sub_cancel]
theorem pk_m1 (n : Nat) : nI (n + 1) + (-1) = nI n := by
  rw [← nI_1, Int32.add_assoc, show (1 : Int32) + (-1) = 0 from rfl, Int32.add_zero]
theorem pk_mul (a b : Nat) : nI a * nI b = nI (a * b) := (Int32.ofNat_mul a b).symm
theorem pk_div {a d : Nat} (ha : a < 2 ^ 31) (h0 : 0 < d) (hd : d < 2 ^ 31) : nI a / nI d = nI (a / d) := by
  apply Int32.toInt_inj.mp
  rw [lg_idiv_nonneg (by rw [nI_toInt ha]; omega) (by rw [nI_toInt hd]; omega), nI_toInt ha, nI_toInt hd, nI_toInt (Nat.lt_of_le_of_lt (Nat.div_le_self a d) ha)]
  first | rfl | exact (Int.natCast_ediv _ _).symm
theorem pk_sub_toInt {a b : Nat} (ha : a < 2 ^ 30) (hb : b < 2 ^ 30) : (nI a - nI b).toInt = (a : Int) - b := by
  rw [Int32.toInt_sub, nI_toInt (by omega), nI_toInt (by omega)]
  exact Int.bmod_eq_of_le (by omega) (by omega)
theorem pk_sneg {a b : Nat} (hb : b < 2 ^ 30) (h : a < b) : nI a - nI b < 0 := by
  rw [Int32.lt_iff_toInt_lt, pk_sub_toInt (by omega) hb, show (0 : Int32).toInt = 0 from by decide]
  omega
theorem pk_ix (x : Int32) {n : Nat} (hn : n < 2 ^ 31) : x < 0 ∨ nI n ≤ x ∨ ∃ j : Nat, j < n ∧ x = nI j := by
  by_cases h : x < 0
  · exact Or.inl h
  · obtain ⟨j, hj, rfl⟩ := nI_of h
    by_cases h2 : j < n
    · exact Or.inr (Or.inr ⟨j, h2, rfl⟩)
    · exact Or.inr (Or.inl (nI_le (by omega) hj))
theorem pk_le {x y : Int32} {A B : Prop} (a b : Nat) (f : a ≤ b → A) (g : b < a → B) (hx : x = nI a := by rfl) (hy : y = nI b := by rfl) (ha : a < 2 ^ 31 := by omega) (hb : b < 2 ^ 31 := by omega) : (x ≤ y → A) ∧ (¬ x ≤ y → B) := by
  subst hx hy
  rw [nI_leI ha hb]
  exact ⟨f, fun z => g (by omega)⟩
theorem pk_lt {x y : Int32} {A B : Prop} (a b : Nat) (f : a < b → A) (g : b ≤ a → B) (hx : x = nI a := by rfl) (hy : y = nI b := by rfl) (ha : a < 2 ^ 31 := by omega) (hb : b < 2 ^ 31 := by omega) : (x < y → A) ∧ (¬ x < y → B) := by
  subst hx hy
  rw [nI_ltI ha hb]
  exact ⟨f, fun z => g (by omega)⟩
theorem pk_eq {x y : Int32} {A B : Prop} (a b : Nat) (f : a = b → A) (g : a ≠ b → B) (hx : x = nI a := by rfl) (hy : y = nI b := by rfl) (ha : a < 2 ^ 31 := by omega) (hb : b < 2 ^ 31 := by omega) : (x = y → A) ∧ (¬ x = y → B) := by
  subst hx hy
  rw [nI_eq ha hb]
  exact ⟨f, g⟩
theorem pk_in {x : Int32} (n N : Nat) (h : n < N) (hx : x = nI n := by rfl) (hN : N < 2 ^ 31 := by omega) : vp_in x N := by
  subst hx
  exact vp_in_nI h hN
theorem pk_cl {x : Int32} (n : Nat) (hx : x = nI n := by rfl) (h : n < 2 ^ 31 := by omega) : x.toNatClampNeg = n := by
  subst hx
  exact nI_clamp h
theorem tr_div4 {t : Nat} (h : t < 2 ^ 31) : nI t / 4 = nI (t / 4) := pk_div (d := 4) h (by decide) (by decide)
theorem tr_op1 {o a : Nat} (h : 1 ≤ o) : nI o + (nI a - 1) = nI (o - 1 + a) := by
  obtain ⟨p, rfl⟩ : ∃ p, o = p + 1 := ⟨o - 1, by omega⟩
  rw [Nat.add_sub_cancel, ← nI_1, ← nI_add p a, Int32.add_assoc, Int32.add_comm 1 (nI a - 1), Int32.sub_add_cancel]
theorem tr_op2 {o a : Nat} (h : 1 ≤ o) : nI o - 1 + nI a = nI (o - 1 + a) := by
  obtain ⟨p, rfl⟩ : ∃ p, o = p + 1 := ⟨o - 1, by omega⟩
  rw [nI_pred, nI_add, Nat.add_sub_cancel]
theorem tr_n1 {n : Nat} (h : n < 2 ^ 31) : ¬ nI n = -1 := by
  intro e
  have := nI_pos (n := n) h
  rw [e] at this
  exact this (by decide)
theorem tr_le0 {a : Nat} (h : a < 2 ^ 31) : nI a ≤ 0 ↔ a = 0 := by
  rw [← nI_0, nI_leI h (by omega)]; omega
theorem tr_eq0 {a : Nat} (h : a < 2 ^ 31) : nI a = 0 ↔ a = 0 := by
  rw [← nI_0, nI_eq h (by omega)]
theorem tr_28 (a b : Nat) : nI a * 28 + nI b = nI (a * 28 + b) := by
  rw [show (28 : Int32) = nI 28 from rfl, pk_mul, nI_add]
theorem tr_m28 (a : Nat) : nI a * 28 = nI (a * 28) := pk_mul a 28
/-- an answer that may be wanting -/
def tr_oi : Option Nat → Int32
  | none => -1
  | some q => nI q
theorem tr_oi_s {q : Nat} : tr_oi (some q) = nI q := rfl
theorem tr_oi_n : tr_oi none = -1 := rfl
/-- the first n cells of an array -/
def tr_la (a : Nat → Int32) (T : Nat → Nat) (n : Nat) : Prop := ∀ j, j < n → a j = nI (T j)
theorem tr_la_put {a : Nat → Int32} {T : Nat → Nat} {n x : Nat} (h : tr_la a T n) : tr_la (upd a n (nI x)) (fun j => if j = n then x else T j) (n + 1) := by
  intro j hj
  by_cases e : j = n
  · subst e; rw [pk_us]; dsimp only; rw [if_pos rfl]
  · rw [pk_un e]; dsimp only; rw [if_neg e]; exact h j (by omega)
end TRA
end
section
section TRB
/-! the pure picture: extents, positions of a left side, the walk, the first that .. -/
def tr_ex (T : Nat → Nat) : Nat → Nat → Nat → Nat
  | 0, _, e => e
  | f + 1, o, e => if o = 0 then e else tr_ex T f (o - 1 + T e / 4) (e + 1)
theorem tr_ex0 {T : Nat → Nat} {f e : Nat} : tr_ex T f 0 e = e := by
  cases f with
  | zero => rfl
  | succ f => exact if_pos rfl
theorem tr_exS {T : Nat → Nat} {f o e : Nat} (h : o ≠ 0) : tr_ex T (f + 1) o e = tr_ex T f (o - 1 + T e / 4) (e + 1) := if_neg h
theorem tr_ex_le (T : Nat → Nat) : ∀ f o e : Nat, e ≤ tr_ex T f o e ∧ tr_ex T f o e ≤ e + f := by
  intro f
  induction f with
  | zero => intro o e; exact ⟨Nat.le_refl _, Nat.le_refl _⟩
  | succ f ih =>
    intro o e
    by_cases h : o = 0
    · subst h; rw [tr_ex0]; omega
    · rw [tr_exS h]
      have := ih (o - 1 + T e / 4) (e + 1)
      omega
def tr_E (T : Nat → Nat) (s i : Nat) : Nat := tr_ex T (s - i) 1 i - i
theorem tr_E_le (T : Nat → Nat) {s i : Nat} (h : i ≤ s) : i + tr_E T s i ≤ s := by
  have := tr_ex_le T (s - i) 1 i
  unfold tr_E
  omega
def tr_ps (c T : Nat → Nat) (s i : Nat) : Nat → Nat
  | 0 => i
  | j + 1 => tr_ps c T s i j + (if c j < 16 then 1 else tr_E T s (tr_ps c T s i j))
theorem tr_ps_s {c T : Nat → Nat} {s i j : Nat} (h : c j < 16) : tr_ps c T s i (j + 1) = tr_ps c T s i j + 1 := by
  rw [tr_ps, if_pos h]
theorem tr_ps_v {c T : Nat → Nat} {s i j : Nat} (h : ¬ c j < 16) : tr_ps c T s i (j + 1) = tr_ps c T s i j + tr_E T s (tr_ps c T s i j) := by
  rw [tr_ps, if_neg h]
def tr_cn (c T : Nat → Nat) (s i j : Nat) : Prop := tr_ps c T s i j < s ∧ (c j < 16 → T (tr_ps c T s i j) = c j)
def tr_ap (c T : Nat → Nat) (s i n : Nat) : Prop := ∀ j, j < n → tr_cn c T s i j
theorem tr_ps_le {c T : Nat → Nat} {s i j : Nat} (h : tr_ps c T s i j < s) : tr_ps c T s i (j + 1) ≤ s := by
  by_cases h2 : c j < 16
  · rw [tr_ps_s h2]; omega
  · rw [tr_ps_v h2]; exact tr_E_le T (by omega)
theorem tr_ap_le {c T : Nat → Nat} {s i n : Nat} (h : tr_ap c T s i n) (hi : i ≤ s) {j : Nat} (hj : j ≤ n) : tr_ps c T s i j ≤ s := by
  cases j with
  | zero => exact hi
  | succ j => exact tr_ps_le (h j (by omega)).1
noncomputable def tr_wr (c T : Nat → Nat) (s i : Nat) (st : Int32) : Nat → Nat → Int32
  | 0, j => nI (tr_ps c T s i j)
  | n + 1, j => if nI (c j) = st then nI (tr_ps c T s i j) else @ite _ (tr_cn c T s i j) (Classical.propDecidable _) (tr_wr c T s i st n (j + 1)) (-1)
theorem tr_wr_e {c T : Nat → Nat} {s i n j : Nat} {st : Int32} (h : nI (c j) = st) : tr_wr c T s i st (n + 1) j = nI (tr_ps c T s i j) := if_pos h
theorem tr_wr_t {c T : Nat → Nat} {s i n j : Nat} {st : Int32} (h : ¬ nI (c j) = st) (hc : tr_cn c T s i j) : tr_wr c T s i st (n + 1) j = tr_wr c T s i st n (j + 1) := (if_neg h).trans (if_pos hc)
theorem tr_wr_f {c T : Nat → Nat} {s i n j : Nat} {st : Int32} (h : ¬ nI (c j) = st) (hc : ¬ tr_cn c T s i j) : tr_wr c T s i st (n + 1) j = -1 := (if_neg h).trans (if_neg hc)
theorem tr_wr_ap {c T : Nat → Nat} {s i l : Nat} {st : Int32} (hs : ∀ j, j < l → ¬ nI (c j) = st) (ha : tr_ap c T s i l) : ∀ n j : Nat, n + j = l → tr_wr c T s i st n j = nI (tr_ps c T s i l) := by
  intro n
  induction n with
  | zero => intro j h; have e : j = l := by omega
            subst e; rfl
  | succ n ih => intro j h; rw [tr_wr_t (hs j (by omega)) (ha j (by omega))]; exact ih (j + 1) (by omega)
theorem tr_wr_na {c T : Nat → Nat} {s i l : Nat} {st : Int32} (hs : ∀ j, j < l → ¬ nI (c j) = st) : ∀ n j : Nat, n + j = l → ¬ (∀ k, j ≤ k → k < l → tr_cn c T s i k) → tr_wr c T s i st n j = -1 := by
  intro n
  induction n with
  | zero => intro j h ha; exact (ha (fun k h1 h2 => by omega)).elim
  | succ n ih =>
    intro j h ha
    by_cases hc : tr_cn c T s i j
    · rw [tr_wr_t (hs j (by omega)) hc]
      refine ih (j + 1) (by omega) fun hk => ha fun k h1 h2 => ?_
      by_cases e : k = j
      · subst e; exact hc
      · exact hk k (by omega) h2
    · exact tr_wr_f (hs j (by omega)) hc
theorem tr_wr_v {c T : Nat → Nat} {s i l t j0 : Nat} (ht : t < 2 ^ 31) (hc : ∀ j, j < l → c j < 2 ^ 31) (hj : j0 < l) (e0 : c j0 = t) (hn : ∀ j, j < l → c j = t → j = j0) (ha : tr_ap c T s i l) : ∀ n j : Nat, n + j = l → j ≤ j0 → tr_wr c T s i (nI t) n j = nI (tr_ps c T s i j0) := by
  intro n
  induction n with
  | zero => intro j h h2; omega
  | succ n ih =>
    intro j h h2
    by_cases e : j = j0
    · subst e; exact tr_wr_e (by rw [e0])
    · rw [tr_wr_t (fun z => e (hn j (by omega) ((nI_eq (hc j (by omega)) ht).mp z))) (ha j (by omega))]
      exact ih (j + 1) (by omega) (by omega)
/-- the first of r, .., r + n - 1 that is p -/
noncomputable def tr_fr (p : Nat → Prop) : Nat → Nat → Option Nat
  | 0, _ => none
  | n + 1, r => @ite _ (p r) (Classical.propDecidable _) (some r) (tr_fr p n (r + 1))
theorem tr_fr_t {p : Nat → Prop} {n r : Nat} (h : p r) : tr_fr p (n + 1) r = some r := if_pos h
theorem tr_fr_f {p : Nat → Prop} {n r : Nat} (h : ¬ p r) : tr_fr p (n + 1) r = tr_fr p n (r + 1) := if_neg h
theorem tr_fr_some {p : Nat → Prop} {x : Nat} : ∀ n r : Nat, tr_fr p n r = some x → r ≤ x ∧ x < r + n ∧ p x ∧ ∀ y, r ≤ y → y < x → ¬ p y := by
  intro n
  induction n with
  | zero => intro r h; exact nomatch (show (none : Option Nat) = some x from h)
  | succ n ih =>
    intro r h
    by_cases hp : p r
    · rw [tr_fr_t hp] at h
      cases h
      exact ⟨Nat.le_refl _, by omega, hp, fun y h1 h2 => by omega⟩
    · rw [tr_fr_f hp] at h
      obtain ⟨h1, h2, h3, h4⟩ := ih (r + 1) h
      refine ⟨by omega, by omega, h3, fun y h5 h6 => ?_⟩
      by_cases e : y = r
      · subst e; exact hp
      · exact h4 y (by omega) h6
theorem tr_fr_none {p : Nat → Prop} : ∀ n r : Nat, tr_fr p n r = none → ∀ y, r ≤ y → y < r + n → ¬ p y := by
  intro n
  induction n with
  | zero => intro r h y h1 h2; omega
  | succ n ih =>
    intro r h y h1 h2
    by_cases hp : p r
    · rw [tr_fr_t hp] at h; exact nomatch h
    · rw [tr_fr_f hp] at h
      by_cases e : y = r
      · subst e; exact hp
      · exact ih (r + 1) h y (by omega) (by omega)
/-- the rules: left cells, right cells, used, the cells -/
abbrev TrD : Type := Nat × Nat × Int32 × (Nat → Nat)
def tr_ok (d : TrD) : Prop := d.1 ≤ 12 ∧ d.2.1 ≤ 16 ∧ (∀ j, j < d.1 + d.2.1 → d.2.2.2 j < 24) ∧ (∀ j k, j < d.1 → k < d.1 → d.2.2.2 j = d.2.2.2 k → 16 ≤ d.2.2.2 j → j = k) ∧ (∀ j, d.1 ≤ j → j < d.1 + d.2.1 → 16 ≤ d.2.2.2 j → ∃ k, k < d.1 ∧ d.2.2.2 k = d.2.2.2 j)
noncomputable def tr_ra (R : Nat → TrD) (rc : Nat) (T : Nat → Nat) (s i : Nat) : Option Nat := tr_fr (fun r => tr_ap (R r).2.2.2 T s i (R r).1) rc 0
def tr_rd (R : Nat → TrD) (rc : Nat) (T : Nat → Nat) (s i : Nat) : Prop := tr_ra R rc T s i ≠ none
/-- the nearest redex from i on, else s -/
noncomputable def tr_nr (p : Nat → Prop) (s i : Nat) : Nat := (tr_fr p (s - i) i).getD s
theorem tr_nr_s {p : Nat → Prop} {s : Nat} : tr_nr p s s = s := by
  unfold tr_nr; rw [Nat.sub_self, tr_fr, Option.getD_none]
theorem tr_nr_t {p : Nat → Prop} {s i : Nat} (hi : i < s) (h : p i) : tr_nr p s i = i := by
  unfold tr_nr
  obtain ⟨f, hf⟩ : ∃ f, s - i = f + 1 := ⟨s - i - 1, by omega⟩
  rw [hf, tr_fr_t h, Option.getD_some]
theorem tr_nr_f {p : Nat → Prop} {s i : Nat} (hi : i < s) (h : ¬ p i) : tr_nr p s i = tr_nr p s (i + 1) := by
  unfold tr_nr
  obtain ⟨f, hf⟩ : ∃ f, s - i = f + 1 := ⟨s - i - 1, by omega⟩
  rw [hf, tr_fr_f h, show s - (i + 1) = f from by omega]
theorem tr_nr_ge {p : Nat → Prop} {s i e : Nat} (he : e ≤ s) : e ≤ tr_nr p s i ↔ ∀ y, i ≤ y → y < e → ¬ p y := by
  unfold tr_nr
  cases hx : tr_fr p (s - i) i with
  | none =>
    have h := tr_fr_none _ _ hx
    exact ⟨fun _ y h1 h2 => h y h1 (by omega), fun _ => he⟩
  | some x =>
    obtain ⟨h1, h2, h3, h4⟩ := tr_fr_some _ _ hx
    constructor
    · intro (h : e ≤ x) y h5 h6
      exact h4 y h5 (by omega)
    · intro h
      show e ≤ x
      by_cases z : x < e
      · exact absurd h3 (h x h1 z)
      · omega
theorem tr_nr_le {p : Nat → Prop} {s i : Nat} (h : i ≤ s) : tr_nr p s i ≤ s := by
  unfold tr_nr
  cases hx : tr_fr p (s - i) i with
  | none => exact Nat.le_refl _
  | some x =>
    have := tr_fr_some _ _ hx
    show x ≤ s
    omega
def tr_in (p : Nat → Prop) (T : Nat → Nat) (s i : Nat) : Prop := p i ∧ i + tr_E T s i ≤ tr_nr p s (i + 1)
/-- the next redex -/
noncomputable def tr_nx (R : Nat → TrD) (rc : Nat) (T : Nat → Nat) (s : Nat) : Option Nat := tr_fr (tr_in (tr_rd R rc T s) T s) s 0
/-! lists: what the next term is built of -/
def tr_sg (T : Nat → Nat) (p : Nat) : Nat → List Nat
  | 0 => []
  | n + 1 => tr_sg T p n ++ [T (p + n)]
theorem tr_sg_0 {T : Nat → Nat} {p : Nat} : tr_sg T p 0 = [] := rfl
theorem tr_sg_s {T : Nat → Nat} {p n : Nat} : tr_sg T p (n + 1) = tr_sg T p n ++ [T (p + n)] := rfl
theorem tr_sg_len (T : Nat → Nat) (p : Nat) : ∀ n, (tr_sg T p n).length = n := by
  intro n
  induction n with
  | zero => rfl
  | succ n ih => rw [tr_sg_s, List.length_append, ih]; rfl
def tr_ct (T c B : Nat → Nat) (s l : Nat) : Nat → List Nat
  | 0 => []
  | k + 1 => tr_ct T c B s l k ++ (if c (l + k) < 16 then [c (l + k)] else tr_sg T (B (c (l + k))) (tr_E T s (B (c (l + k)))))
theorem tr_ct_s {T c B : Nat → Nat} {s l k : Nat} (h : c (l + k) < 16) : tr_ct T c B s l (k + 1) = tr_ct T c B s l k ++ [c (l + k)] := by
  rw [tr_ct, if_pos h]
theorem tr_ct_v {T c B : Nat → Nat} {s l k : Nat} (h : ¬ c (l + k) < 16) : tr_ct T c B s l (k + 1) = tr_ct T c B s l k ++ tr_sg T (B (c (l + k))) (tr_E T s (B (c (l + k)))) := by
  rw [tr_ct, if_neg h]
def tr_hl (a : Nat → Int32) (L : List Nat) : Prop := tr_la a (fun q => L.getD q 0) L.length
theorem tr_hl_0 {a : Nat → Int32} : tr_hl a [] := fun _ h => absurd h (Nat.not_lt_zero _)
theorem tr_getD_l {L M : List Nat} {q : Nat} (h : q < L.length) : (L ++ M).getD q 0 = L.getD q 0 := by
  rw [List.getD_eq_getElem?_getD, List.getD_eq_getElem?_getD, List.getElem?_append_left h]
theorem tr_getD_e {L : List Nat} {x : Nat} : (L ++ [x]).getD L.length 0 = x := by
  rw [List.getD_eq_getElem?_getD, List.getElem?_append_right (Nat.le_refl _), Nat.sub_self]; rfl
theorem tr_hl_put {a : Nat → Int32} {L : List Nat} {x : Nat} (h : tr_hl a L) : tr_hl (upd a L.length (nI x)) (L ++ [x]) := by
  intro q hq
  rw [List.length_append] at hq
  by_cases e : q = L.length
  · subst e
    show _ = nI ((L ++ [x]).getD L.length 0)
    rw [pk_us, tr_getD_e]
  · have hq' : q < L.length := by
      have : ([x] : List Nat).length = 1 := rfl
      omega
    show _ = nI ((L ++ [x]).getD q 0)
    rw [pk_un e, tr_getD_l hq']
    exact h q hq'
def tr_16 (L : List Nat) : Prop := ∀ x, x ∈ L → x < 16
theorem tr_16_0 : tr_16 [] := fun _ h => nomatch h
theorem tr_16_a {L M : List Nat} (h : tr_16 L) (h2 : tr_16 M) : tr_16 (L ++ M) := fun x hx => by
  rcases List.mem_append.mp hx with z | z
  · exact h x z
  · exact h2 x z
theorem tr_16_1 {x : Nat} (h : x < 16) : tr_16 [x] := fun y hy => by
  rw [List.mem_singleton] at hy; omega
theorem tr_16_sg {T : Nat → Nat} {s p : Nat} (hT : ∀ j, j < s → T j < 16) : ∀ n, p + n ≤ s → tr_16 (tr_sg T p n) := by
  intro n
  induction n with
  | zero => intro _; exact tr_16_0
  | succ n ih => intro h; exact tr_16_a (ih (by omega)) (tr_16_1 (hT _ (by omega)))
theorem tr_16_get {L : List Nat} (h : tr_16 L) {q : Nat} (hq : q < L.length) : L.getD q 0 < 16 := by
  rw [List.getD_eq_getElem?_getD, List.getElem?_eq_getElem hq]
  exact h _ (List.getElem_mem hq)
end TRB
end
section
section TRC
variable {xa xb xc xd xe xf xg xh xi ya yb yc yd ye yf yg yh yi : Int32} {qa qb qc qd qe qf qg qh qi pa pb pc pd pe pf pg : Nat → Int32}
/-! the component's readers against the pure picture -/
/-- a term's cells -/
def tr_tm (a : Nat → Int32) (T : Nat → Nat) (s : Nat) : Prop := s ≤ 64 ∧ tr_la a T s ∧ ∀ j, j < s → T j < 16
/-- the rules' cells and left lengths -/
def tr_rl (a b : Nat → Int32) (R : Nat → TrD) (rc : Nat) : Prop := rc ≤ 12 ∧ ∀ q, q < rc → tr_ok (R q) ∧ b q = nI (R q).1 ∧ ∀ j, j < (R q).1 + (R q).2.1 → a (q * 28 + j) = nI ((R q).2.2.2 j)
theorem tr_ap_s {c T : Nat → Nat} {s i j : Nat} (h : tr_ap c T s i j) (hc : tr_cn c T s i j) : tr_ap c T s i (j + 1) := fun k hk => by
  by_cases e : k = j
  · subst e; exact hc
  · exact h k (by omega)
theorem tr_ap_0 {c T : Nat → Nat} {s i : Nat} : tr_ap c T s i 0 := fun _ h => absurd h (Nat.not_lt_zero _)
theorem tr_xE1 {post : Int32 → Prop} {T : Nat → Nat} {s i : Nat} (ht : tr_tm qe T s) : ∀ n o e : Nat, s + 1 ≤ n + e → i ≤ e → e ≤ s → o ≤ 1 + 2 * e → post (nI (tr_ex T (s - e) o e - i)) →
    wX_extentAt_4 post (nI i) xa xb xc (nI s) xe xf xg xh xi qa qb qc qd qe qf qg qh qi n (nI e) (nI o) := by
  obtain ⟨hs, hT, h16⟩ := ht
  intro n
  induction n with
  | zero => intro o e h1 h2 h3; omega
  | succ n ih =>
    intro o e h1 h2 h3 h4 hp
    refine pk_le o 0 (fun h5 => ?_) (fun h5 => pk_le s e (fun h6 => ?_) (fun h6 => ⟨vp_in_nI (by omega) (by decide), by decide, nm_r (e' := nI (o - 1 + T e / 4)) ?_ (nm_r (nI_1 e) ?_)⟩))
    · have e0 : o = 0 := by omega
      subst e0
      rw [tr_ex0] at hp
      rw [pk_sub h2]
      exact hp
    · have e0 : s - e = 0 := by omega
      rw [e0] at hp
      rw [pk_sub h2]
      exact hp
    · have := h16 e h6
      rw [nI_clamp (by omega), hT e h6, tr_div4 (by omega), tr_op1 (by omega)]
    · have := h16 e h6
      refine ih _ _ (by omega) (by omega) (by omega) (by omega) ?_
      rw [show s - e = (s - (e + 1)) + 1 by omega, tr_exS (by omega)] at hp
      exact hp
theorem tr_xE {post : Int32 → Prop} {T : Nat → Nat} {s i : Nat} (ht : tr_tm qe T s) (hi : i ≤ s) (hp : post (nI (tr_E T s i))) : wpX_extentAt post (xa, xb, xc, nI s, xe, xf, xg, xh, xi, qa, qb, qc, qd, qe, qf, qg, qh, qi) (nI i) :=
  ⟨s + 1, tr_xE1 ht (s + 1) 1 i (by omega) (Nat.le_refl _) hi (by omega) hp⟩
theorem tr_xA1 {post : Int32 → Prop} {c T : Nat → Nat} {s i l r : Nat} (ht : tr_tm qe T s) (hr : r < 12) (hl : l ≤ 12) (hL : qb r = nI l) (hC : ∀ j, j < l → qa (r * 28 + j) = nI (c j)) (h24 : ∀ j, j < l → c j < 24)
    (h1 : tr_ap c T s i l → post 1) (h0 : ¬ tr_ap c T s i l → post 0) : ∀ n j : Nat, l + 1 ≤ n + j → j ≤ l → tr_ap c T s i j → tr_ps c T s i j ≤ s →
    wX_applies_11 post (nI r) (nI (r * 28)) xa xb xc (nI s) xe xf xg xh xi qa qb qc qd qe qf qg qh qi n (nI (tr_ps c T s i j)) (nI j) := by
  have hs := ht.1
  intro n
  induction n with
  | zero => intro j a b; omega
  | succ n ih =>
    intro j hn hj ha hq
    refine ⟨vp_in_nI hr (by decide), ?_⟩
    have eL : qb (nI r).toNatClampNeg = nI l := by rw [nI_clamp (by omega)]; exact hL
    rw [eL]
    refine pk_le l j (fun h => ?_) (fun h => ⟨by rw [nI_add]; exact vp_in_nI (by omega) (by decide), nm_r (e' := nI (c j)) (by rw [nI_add, nI_clamp (by omega)]; exact hC j h) ?_⟩)
    · have e : j = l := by omega
      subst e
      exact h1 ha
    · have hc := h24 j h
      refine pk_lt (tr_ps c T s i j) s (fun h2 => pk_lt (c j) 16 (fun h3 => ⟨vp_in_nI (by omega) (by decide), ?_⟩) (fun h3 => ?_)) (fun h2 => h0 fun z => ?_)
      · have e3 : qe (nI (tr_ps c T s i j)).toNatClampNeg = nI (T (tr_ps c T s i j)) := by rw [nI_clamp (by omega)]; exact ht.2.1 _ h2
        have ht16 := ht.2.2 _ h2
        rw [e3]
        refine pk_eq (c j) (T (tr_ps c T s i j)) (fun h4 => nm_r (nI_1 _) (nm_r (nI_1 _) ?_)) (fun h4 => h0 fun z => h4 ((z j h).2 h3).symm)
        rw [← tr_ps_s h3]
        exact ih (j + 1) (by omega) (by omega) (tr_ap_s ha ⟨h2, fun _ => h4.symm⟩) (tr_ps_le h2)
      · refine tr_xE ht (by omega) (nm_r (nI_add _ _) (nm_r (nI_1 _) ?_))
        rw [← tr_ps_v (by omega)]
        exact ih (j + 1) (by omega) (by omega) (tr_ap_s ha ⟨h2, fun z => absurd z (by omega)⟩) (tr_ps_le h2)
      · have := (z j h).1
        omega
theorem tr_xA {post : Int32 → Prop} {T : Nat → Nat} {s i rc r : Nat} {R : Nat → TrD} (ht : tr_tm qe T s) (hR : tr_rl qa qb R rc) (hr : r < rc) (hi : i ≤ s)
    (h1 : tr_ap (R r).2.2.2 T s i (R r).1 → post 1) (h0 : ¬ tr_ap (R r).2.2.2 T s i (R r).1 → post 0) : wpX_applies post (xa, xb, xc, nI s, xe, xf, xg, xh, xi, qa, qb, qc, qd, qe, qf, qg, qh, qi) (nI r) (nI i) := by
  obtain ⟨hrc, hR⟩ := hR
  obtain ⟨ok, hL, hC⟩ := hR r hr
  exact nm_r (tr_m28 r) ⟨(R r).1 + 1, tr_xA1 ht (by omega) ok.1 hL (fun j hj => hC j (by omega)) (fun j hj => ok.2.2.1 j (by omega)) h1 h0 ((R r).1 + 1) 0 (by omega) (Nat.zero_le _) tr_ap_0 hi⟩
theorem tr_xR1 {post : Int32 → Prop} {T : Nat → Nat} {s i rc : Nat} {R : Nat → TrD} (ht : tr_tm qe T s) (hR : tr_rl qa qb R rc) (hi : i ≤ s) : ∀ n r : Nat, rc + 1 ≤ n + r → r ≤ rc →
    post (tr_oi (tr_fr (fun r => tr_ap (R r).2.2.2 T s i (R r).1) (rc - r) r)) → wX_ruleAt_16 post (nI i) xa xb (nI rc) (nI s) xe xf xg xh xi qa qb qc qd qe qf qg qh qi n (nI r) := by
  have hrc := hR.1
  intro n
  induction n with
  | zero => intro r a b; omega
  | succ n ih =>
    intro r hn hr hp
    refine pk_le rc r (fun h => ?_) (fun h => ?_)
    · rw [show rc - r = 0 by omega] at hp
      exact hp
    · rw [show rc - r = (rc - (r + 1)) + 1 by omega] at hp
      refine tr_xA ht hR h hi (fun ha => br_f (by decide) ?_) (fun ha => br_t rfl (nm_r (nI_1 r) ?_))
      · rw [tr_fr_t (p := fun r => tr_ap (R r).2.2.2 T s i (R r).1) (r := r) ha] at hp
        exact hp
      · rw [tr_fr_f (p := fun r => tr_ap (R r).2.2.2 T s i (R r).1) (r := r) ha] at hp
        exact ih (r + 1) (by omega) (by omega) hp
theorem tr_xR {post : Int32 → Prop} {T : Nat → Nat} {s i rc : Nat} {R : Nat → TrD} (ht : tr_tm qe T s) (hR : tr_rl qa qb R rc) (hi : i < s) (hp : post (tr_oi (tr_ra R rc T s i))) :
    wpX_ruleAt post (xa, xb, nI rc, nI s, xe, xf, xg, xh, xi, qa, qb, qc, qd, qe, qf, qg, qh, qi) (nI i) := by
  have hs := ht.1
  exact br_f (nI_pos (by omega)) (br_t (nI_lt hi (by omega)) ⟨rc + 1, tr_xR1 ht hR (by omega) (rc + 1) 0 (by omega) (Nat.zero_le _) hp⟩)
def tr_dn : Nat → Int32
  | 0 => -1
  | k + 1 => nI k
theorem tr_dn_m (k : Nat) : nI k + (-1) = tr_dn k := by
  cases k with
  | zero => decide
  | succ k => exact pk_m1 k
theorem tr_dn_s (k : Nat) : nI k - 1 = tr_dn k := by
  cases k with
  | zero => decide
  | succ k => exact nI_pred k
theorem tr_ra_lt {R : Nat → TrD} {rc s i r : Nat} {T : Nat → Nat} (h : tr_ra R rc T s i = some r) : r < rc := by
  have := tr_fr_some _ _ h
  omega
theorem tr_xN1 {post : Int32 → Prop} {T : Nat → Nat} {s rc : Nat} {R : Nat → TrD} (ht : tr_tm qe T s) (hR : tr_rl qa qb R rc) (hp : post (tr_oi (tr_nx R rc T s))) : ∀ k n : Nat, k ≤ s → k + 1 ≤ n →
    wX_nextRedex_14 post xa xb (nI rc) (nI s) xe xf xg xh xi qa qb qc qd qe qf qg qh qi n (tr_oi (tr_fr (tr_in (tr_rd R rc T s) T s) (s - k) k)) (nI (tr_nr (tr_rd R rc T s) s k)) (tr_dn k) := by
  have hs := ht.1
  have hrc := hR.1
  intro k
  induction k with
  | zero =>
    intro n _ hn
    obtain ⟨m, rfl⟩ : ∃ m, n = m + 1 := ⟨n - 1, by omega⟩
    exact br_t (by decide) hp
  | succ k ih =>
    intro n hk hn
    obtain ⟨m, rfl⟩ : ∃ m, n = m + 1 := ⟨n - 1, by omega⟩
    have H := ih m (by omega) (by omega)
    rw [show s - k = (s - (k + 1)) + 1 by omega] at H
    refine br_f (nI_pos (by omega)) (tr_xR ht hR hk ?_)
    cases hra : tr_ra R rc T s k with
    | none =>
      have hn0 : ¬ tr_rd R rc T s k := fun z => z hra
      rw [tr_fr_f (fun z => hn0 z.1), tr_nr_f hk hn0] at H
      rw [tr_oi_n]
      exact br_t (by decide) (nm_r (tr_dn_m k) H)
    | some r =>
      have hrd : tr_rd R rc T s k := fun z => by rw [hra] at z; exact nomatch z
      have hr := tr_ra_lt hra
      have hE := tr_E_le T (show k ≤ s by omega)
      have hN := tr_nr_le (p := tr_rd R rc T s) hk
      rw [tr_nr_t hk hrd] at H
      rw [tr_oi_s]
      refine br_f (nI_pos (by omega)) (tr_xE ht (by omega) (pk_lt (tr_nr (tr_rd R rc T s) s (k + 1)) (k + tr_E T s k) (fun h => nm_r (tr_dn_m k) ?_) (fun h => nm_r (tr_dn_m k) ?_) (hy := nI_add _ _)))
      · rw [tr_fr_f (fun z => by have := z.2; omega)] at H
        exact H
      · rw [tr_fr_t ⟨hrd, h⟩] at H
        exact H
theorem tr_xN {post : Int32 → Prop} {T : Nat → Nat} {s rc : Nat} {R : Nat → TrD} (ht : tr_tm qe T s) (hR : tr_rl qa qb R rc) (hp : post (tr_oi (tr_nx R rc T s))) : wpX_nextRedex post (xa, xb, nI rc, nI s, xe, xf, xg, xh, xi, qa, qb, qc, qd, qe, qf, qg, qh, qi) := by
  have H := tr_xN1 (xa := xa) (xb := xb) (xe := xe) (xf := xf) (xg := xg) (xh := xh) (xi := xi) (qc := qc) (qd := qd) (qf := qf) (qg := qg) (qh := qh) (qi := qi) ht hR hp s (s + 1) (Nat.le_refl _) (Nat.le_refl _)
  rw [Nat.sub_self, tr_nr_s] at H
  exact nm_r (tr_dn_s s) ⟨s + 1, H⟩
end TRC
end
section
section TRD
variable {xa xb xc xd xe xf xg xh xi ya yb yc yd ye yf yg yh yi : Int32} {qa qb qc qd qe qf qg qh qi pa pb pc pd pe pf pg : Nat → Int32}
/-! the reference's readers against the same picture -/
theorem tr_yA {post : Int32 → Prop} {t : Nat} (ht : t < 16) (hp : post (nI (t / 4))) : wpY_arity post (ya, yb, yc, yd, ye, yf, yg, yh, yi, pa, pb, pc, pd, pe, pf, pg) (nI t) :=
  pk_le 16 t (fun h => absurd h (by omega)) (fun _ => ⟨by decide, by rw [tr_div4 (by omega)]; exact hp⟩)
theorem tr_yE1 {post : Int32 → Prop} {T : Nat → Nat} {s i : Nat} (ht : tr_tm pe T s) : ∀ n o e : Nat, s + 1 ≤ n + e → i ≤ e → e ≤ s → o ≤ 1 + 2 * e → post (nI (tr_ex T (s - e) o e - i)) →
    wY_extent_7 post (nI i) ya yb yc (nI s) ye yf yg yh yi pa pb pc pd pe pf pg n (nI o) (nI e) (nI e) := by
  obtain ⟨hs, hT, h16⟩ := ht
  intro n
  induction n with
  | zero => intro o e h1 h2 h3; omega
  | succ n ih =>
    intro o e h1 h2 h3 h4 hp
    refine br_f (nI_pos (by omega)) (pk_le s e (fun h6 => ?_) (fun h6 => pk_le o 0 (fun h5 => ?_) (fun h5 => ⟨vp_in_nI (by omega) (by decide), ?_⟩)))
    · have e0 : s - e = 0 := by omega
      rw [e0] at hp
      rw [pk_sub h2]
      exact hp
    · have e0 : o = 0 := by omega
      subst e0
      rw [tr_ex0] at hp
      rw [pk_sub h2]
      exact hp
    · have h7 := h16 e h6
      have e3 : pe (nI e).toNatClampNeg = nI (T e) := by rw [nI_clamp (by omega)]; exact hT e h6
      rw [e3]
      refine tr_yA h7 (nm_r (tr_op2 (by omega)) (nm_r (nI_1 e) (nm_r (nI_1 e) ?_)))
      refine ih _ _ (by omega) (by omega) (by omega) (by omega) ?_
      rw [show s - e = (s - (e + 1)) + 1 by omega, tr_exS (by omega)] at hp
      exact hp
theorem tr_yE {post : Int32 → Prop} {T : Nat → Nat} {s i : Nat} (ht : tr_tm pe T s) (hi : i ≤ s) (hp : post (nI (tr_E T s i))) : wpY_extent post (ya, yb, yc, nI s, ye, yf, yg, yh, yi, pa, pb, pc, pd, pe, pf, pg) (nI i) :=
  ⟨s + 1, tr_yE1 ht (s + 1) 1 i (by omega) (Nat.le_refl _) hi (by omega) hp⟩
theorem tr_yW1 {post : Int32 → Prop} {c T : Nat → Nat} {s i l r : Nat} {st : Int32} (ht : tr_tm pe T s) (hr : r < 12) (hl : l ≤ 12) (hL : pb r = nI l) (hC : ∀ j, j < l → pa (r * 28 + j) = nI (c j)) (h24 : ∀ j, j < l → c j < 24) :
    ∀ n j : Nat, l + 1 ≤ n + j → j ≤ l → tr_ps c T s i j ≤ s → post (tr_wr c T s i st (l - j) j) → wY_walk_6 post (nI r) st ya yb yc (nI s) ye yf yg yh yi pa pb pc pd pe pf pg n (nI (tr_ps c T s i j)) (nI j) := by
  have hs := ht.1
  intro n
  induction n with
  | zero => intro j a b; omega
  | succ n ih =>
    intro j hn hj hq hp
    refine ⟨vp_in_nI hr (by decide), ?_⟩
    have eL : pb (nI r).toNatClampNeg = nI l := by rw [nI_clamp (by omega)]; exact hL
    rw [eL]
    refine pk_le l j (fun h => ?_) (fun h => ⟨by rw [tr_28]; exact vp_in_nI (by omega) (by decide), nm_r (e' := nI (c j)) (by rw [tr_28, nI_clamp (by omega)]; exact hC j h) ?_⟩)
    · rw [show l - j = 0 by omega] at hp
      exact hp
    · have hc := h24 j h
      rw [show l - j = (l - (j + 1)) + 1 by omega] at hp
      by_cases hst : nI (c j) = st
      · rw [tr_wr_e hst] at hp
        exact br_t hst hp
      · refine br_f hst (br_f (nI_pos (by omega)) (pk_le s (tr_ps c T s i j) (fun h2 => ?_) (fun h2 => pk_le 16 (c j) (fun h3 => ?_) (fun h3 => ⟨vp_in_nI (by omega) (by decide), ?_⟩))))
        · rw [tr_wr_f hst (fun z => by have := z.1; omega)] at hp
          exact hp
        · rw [tr_wr_t hst ⟨h2, fun z => absurd z (by omega)⟩] at hp
          refine pk_le 16 (c j) (fun _ => tr_yE ht (by omega) (nm_r (nI_add _ _) (nm_r (nI_1 _) ?_))) (fun h4 => absurd h3 (by omega))
          rw [← tr_ps_v (by omega)]
          exact ih (j + 1) (by omega) (by omega) (tr_ps_le h2) hp
        · have e3 : pe (nI (tr_ps c T s i j)).toNatClampNeg = nI (T (tr_ps c T s i j)) := by rw [nI_clamp (by omega)]; exact ht.2.1 _ h2
          have ht16 := ht.2.2 _ h2
          rw [e3]
          refine pk_eq (T (tr_ps c T s i j)) (c j) (fun h4 => pk_le 16 (c j) (fun h5 => absurd h3 (by omega)) (fun _ => nm_r (nI_1 _) (nm_r (nI_1 _) ?_))) (fun h4 => ?_)
          · rw [tr_wr_t hst ⟨h2, fun _ => h4⟩] at hp
            rw [← tr_ps_s h3]
            exact ih (j + 1) (by omega) (by omega) (tr_ps_le h2) hp
          · rw [tr_wr_f hst (fun z => h4 (z.2 h3))] at hp
            exact hp
theorem tr_yW {post : Int32 → Prop} {T : Nat → Nat} {s i rc r : Nat} {R : Nat → TrD} {st : Int32} (ht : tr_tm pe T s) (hR : tr_rl pa pb R rc) (hr : r < rc) (hi : i ≤ s)
    (hp : post (tr_wr (R r).2.2.2 T s i st (R r).1 0)) : wpY_walk post (ya, yb, yc, nI s, ye, yf, yg, yh, yi, pa, pb, pc, pd, pe, pf, pg) (nI r) (nI i) st := by
  obtain ⟨hrc, hR⟩ := hR
  obtain ⟨ok, hL, hC⟩ := hR r hr
  exact ⟨(R r).1 + 1, tr_yW1 ht (by omega) ok.1 hL (fun j hj => hC j (by omega)) (fun j hj => ok.2.2.1 j (by omega)) ((R r).1 + 1) 0 (by omega) (Nat.zero_le _) hi hp⟩
theorem tr_yR1 {post : Int32 → Prop} {T : Nat → Nat} {s i rc : Nat} {R : Nat → TrD} (ht : tr_tm pe T s) (hR : tr_rl pa pb R rc) (hi : i ≤ s) : ∀ n r : Nat, rc + 1 ≤ n + r → r ≤ rc →
    post (tr_oi (tr_fr (fun r => tr_ap (R r).2.2.2 T s i (R r).1) (rc - r) r)) → wY_ruleAt_16 post (nI i) ya yb (nI rc) (nI s) ye yf yg yh yi pa pb pc pd pe pf pg n (nI r) := by
  have hs := ht.1
  have hrc := hR.1
  intro n
  induction n with
  | zero => intro r a b; omega
  | succ n ih =>
    intro r hn hr hp
    refine pk_le rc r (fun h => ?_) (fun h => ?_)
    · rw [show rc - r = 0 by omega] at hp
      exact hp
    · rw [show rc - r = (rc - (r + 1)) + 1 by omega] at hp
      obtain ⟨ok, -, -⟩ := hR.2 r h
      have hst : ∀ j, j < (R r).1 → ¬ nI ((R r).2.2.2 j) = -1 := fun j hj => tr_n1 (by have := ok.2.2.1 j (by omega); omega)
      refine tr_yW ht hR h hi ?_
      by_cases ha : tr_ap (R r).2.2.2 T s i (R r).1
      · have hle := tr_ap_le ha hi (Nat.le_refl _)
        rw [tr_wr_ap hst ha (R r).1 0 (by omega)]
        rw [tr_fr_t (p := fun r => tr_ap (R r).2.2.2 T s i (R r).1) (r := r) ha] at hp
        exact br_f (nI_pos (by omega)) hp
      · rw [tr_wr_na hst (R r).1 0 (by omega) (fun z => ha fun k hk => z k (Nat.zero_le _) hk)]
        rw [tr_fr_f (p := fun r => tr_ap (R r).2.2.2 T s i (R r).1) (r := r) ha] at hp
        exact br_t (by decide) (nm_r (nI_1 r) (ih (r + 1) (by omega) (by omega) hp))
theorem tr_yR {post : Int32 → Prop} {T : Nat → Nat} {s i rc : Nat} {R : Nat → TrD} (ht : tr_tm pe T s) (hR : tr_rl pa pb R rc) (hi : i < s) (hp : post (tr_oi (tr_ra R rc T s i))) :
    wpY_ruleAt post (ya, yb, nI rc, nI s, ye, yf, yg, yh, yi, pa, pb, pc, pd, pe, pf, pg) (nI i) := by
  have hs := ht.1
  exact br_f (nI_pos (by omega)) (br_t (nI_lt hi (by omega)) ⟨rc + 1, tr_yR1 ht hR (by omega) (rc + 1) 0 (by omega) (Nat.zero_le _) hp⟩)
theorem tr_yN37 {post J : Int32 → Prop} {T : Nat → Nat} {s rc i e : Nat} {R : Nat → TrD} (ht : tr_tm pe T s) (hR : tr_rl pa pb R rc) (he : e ≤ s) : ∀ n j : Nat, 1 ≤ n → e + 2 ≤ n + j → j ≤ s →
    ((∀ y, j ≤ y → y < e → ¬ tr_rd R rc T s y) → post (nI i)) → (¬ (∀ y, j ≤ y → y < e → ¬ tr_rd R rc T s y) → J (nI (i + 1))) →
    wY_nextRedex_37 post J (nI i) (nI e) ya yb (nI rc) (nI s) ye yf yg yh yi pa pb pc pd pe pf pg n 1 (nI j) := by
  have hs := ht.1
  have hrc := hR.1
  intro n
  induction n with
  | zero => intro j h; omega
  | succ n ih =>
    intro j _ hn hj h1 h0
    refine br_f (by decide) (pk_le e j (fun h => br_f (by decide) (h1 fun y a b => by omega)) (fun h => tr_yR ht hR (by omega) ?_))
    cases hra : tr_ra R rc T s j with
    | none =>
      have hn0 : ¬ tr_rd R rc T s j := fun z => z hra
      rw [tr_oi_n]
      refine br_t (by decide) (nm_r (nI_1 j) (ih (j + 1) (by omega) (by omega) (by omega) (fun H => h1 fun y a b => ?_) (fun H => h0 fun z => H fun y a b => z y (by omega) b)))
      by_cases ey : y = j
      · subst ey; exact hn0
      · exact H y (by omega) b
    | some r =>
      have hrd : tr_rd R rc T s j := fun z => by rw [hra] at z; exact nomatch z
      have hr := tr_ra_lt hra
      obtain ⟨m, rfl⟩ : ∃ m, n = m + 1 := ⟨n - 1, by omega⟩
      rw [tr_oi_s]
      exact br_f (nI_pos (by omega)) (nm_r (nI_1 j) (br_t rfl (br_t rfl (nm_r (nI_1 i) (h0 fun z => z j (Nat.le_refl _) h hrd)))))
theorem tr_yN1 {post : Int32 → Prop} {T : Nat → Nat} {s rc : Nat} {R : Nat → TrD} (ht : tr_tm pe T s) (hR : tr_rl pa pb R rc) : ∀ n i : Nat, s + 1 ≤ n + i → i ≤ s →
    post (tr_oi (tr_fr (tr_in (tr_rd R rc T s) T s) (s - i) i)) → wY_nextRedex_2 post ya yb (nI rc) (nI s) ye yf yg yh yi pa pb pc pd pe pf pg n (nI i) := by
  have hs := ht.1
  have hrc := hR.1
  intro n
  induction n with
  | zero => intro i a b; omega
  | succ n ih =>
    intro i hn hi hp
    refine pk_le s i (fun h => ?_) (fun h => tr_yE ht (by omega) (nm_r (nI_add _ _) (tr_yR ht hR h ?_)))
    · rw [show s - i = 0 by omega] at hp
      exact hp
    · have hE := tr_E_le T (show i ≤ s by omega)
      rw [show s - i = (s - (i + 1)) + 1 by omega] at hp
      cases hra : tr_ra R rc T s i with
      | none =>
        have hn0 : ¬ tr_rd R rc T s i := fun z => z hra
        rw [tr_fr_f (fun z => hn0 z.1)] at hp
        rw [tr_oi_n]
        exact br_t (by decide) (nm_r (nI_1 i) ⟨1, br_t rfl (br_t rfl (nm_r (nI_1 i) (ih (i + 1) (by omega) (by omega) hp)))⟩)
      | some r =>
        have hrd : tr_rd R rc T s i := fun z => by rw [hra] at z; exact nomatch z
        have hr := tr_ra_lt hra
        rw [tr_oi_s]
        refine br_f (nI_pos (by omega)) (nm_r (nI_1 i) ⟨s + 2, tr_yN37 ht hR hE (s + 2) (i + 1) (by omega) (by omega) (by omega) (fun H => ?_) (fun H => ?_)⟩)
        · rw [tr_fr_t ⟨hrd, (tr_nr_ge hE).mpr H⟩] at hp
          exact hp
        · rw [tr_fr_f (fun z => H ((tr_nr_ge hE).mp z.2))] at hp
          exact ih (i + 1) (by omega) (by omega) hp
theorem tr_yN {post : Int32 → Prop} {T : Nat → Nat} {s rc : Nat} {R : Nat → TrD} (ht : tr_tm pe T s) (hR : tr_rl pa pb R rc) (hp : post (tr_oi (tr_nx R rc T s))) : wpY_nextRedex post (ya, yb, nI rc, nI s, ye, yf, yg, yh, yi, pa, pb, pc, pd, pe, pf, pg) :=
  ⟨s + 1, tr_yN1 ht hR (s + 1) 0 (by omega) (Nat.zero_le _) hp⟩
end TRD
end
section
section TRE
variable {xa xb xc xd xe xf xg xh xi ya yb yc yd ye yf yg yh yi : Int32} {qa qb qc qd qe qf qg qh qi pa pb pc pd pe pf pg : Nat → Int32}
/-! one step of the component -/
/-- a position for each variable of the left side -/
theorem tr_B {c T : Nat → Nat} {s i l : Nat} (hlin : ∀ j k, j < l → k < l → c j = c k → 16 ≤ c j → j = k) : ∀ n, n ≤ l → ∃ B : Nat → Nat, ∀ j, j < n → 16 ≤ c j → B (c j) = tr_ps c T s i j := by
  intro n
  induction n with
  | zero => intro _; exact ⟨fun _ => 0, fun j h => absurd h (Nat.not_lt_zero _)⟩
  | succ n ih =>
    intro hn
    obtain ⟨B, hB⟩ := ih (by omega)
    refine ⟨fun t => if t = c n then tr_ps c T s i n else B t, fun j hj h16 => ?_⟩
    show (if c j = c n then tr_ps c T s i n else B (c j)) = _
    by_cases e : c j = c n
    · have := hlin j n (by omega) (by omega) e h16
      subst this
      rw [if_pos rfl]
    · rw [if_neg e]
      refine hB j ?_ h16
      by_cases e2 : j = n
      · subst e2; exact absurd rfl e
      · omega
def tr_bd (a b : Nat → Int32) (c T : Nat → Nat) (s i n : Nat) : Prop := ∀ j, j < n → 16 ≤ c j → a (c j - 16) = nI (tr_ps c T s i j) ∧ b (c j - 16) = nI (tr_E T s (tr_ps c T s i j))
theorem tr_xB1 {post : SX → Prop} {c T : Nat → Nat} {s i l r : Nat} (ht : tr_tm qe T s) (hr : r < 12) (hl : l ≤ 12) (hL : qb r = nI l) (hC : ∀ j, j < l → qa (r * 28 + j) = nI (c j)) (h24 : ∀ j, j < l → c j < 24)
    (hlin : ∀ j k, j < l → k < l → c j = c k → 16 ≤ c j → j = k) (ha : tr_ap c T s i l) (hp : ∀ qh qi, tr_bd qh qi c T s i l → post (xa, xb, xc, nI s, xe, xf, xg, xh, xi, qa, qb, qc, qd, qe, qf, qg, qh, qi)) :
    ∀ (n j : Nat) (qh qi : Nat → Int32), l + 1 ≤ n + j → j ≤ l → tr_bd qh qi c T s i j →
    wX_bindVariables_11 post (nI r) (nI (r * 28)) xa xb xc (nI s) xe xf xg xh xi n (nI (tr_ps c T s i j)) (nI j) qa qb qc qd qe qf qg qh qi := by
  have hs := ht.1
  intro n
  induction n with
  | zero => intro j qh qi a b; omega
  | succ n ih =>
    intro j qh qi hn hj hb
    refine ⟨vp_in_nI hr (by decide), ?_⟩
    have eL : qb (nI r).toNatClampNeg = nI l := by rw [nI_clamp (by omega)]; exact hL
    rw [eL]
    refine pk_le l j (fun h => ?_) (fun h => ⟨by rw [nI_add]; exact vp_in_nI (by omega) (by decide), ?_⟩)
    · have e : j = l := by omega
      subst e
      exact hp qh qi hb
    · have hc := h24 j h
      have h2 := (ha j h).1
      have eC : qa (nI (r * 28) + nI j).toNatClampNeg = nI (c j) := by rw [nI_add, nI_clamp (by omega)]; exact hC j h
      rw [eC]
      by_cases h3 : c j < 16
      · refine nm_e (br_t (pk_sneg (b := 16) (by decide) h3) (nm_r (nI_1 _) (nm_r (nI_1 _) ?_)))
        rw [← tr_ps_s h3]
        refine ih (j + 1) qh qi (by omega) (by omega) fun k hk h16 => ?_
        by_cases e : k = j
        · subst e; omega
        · exact hb k (by omega) h16
      · have hE := tr_E_le T (show tr_ps c T s i j ≤ s by omega)
        refine nm_r (e' := nI (c j - 16)) (pk_sub (b := 16) (by omega)) (br_f (nI_pos (by omega)) (tr_xE ht (by omega) ⟨vp_in_nI (by omega) (by decide), ?_⟩))
        rw [nI_clamp (show c j - 16 < 2 ^ 31 by omega)]
        refine nm_e ⟨vp_in_nI (by omega) (by decide), nm_e (nm_r (nI_add _ _) (nm_r (nI_1 _) ?_))⟩
        rw [← tr_ps_v h3]
        refine ih (j + 1) _ _ (by omega) (by omega) fun k hk h16 => ?_
        by_cases e : k = j
        · subst e; rw [pk_us, pk_us]; exact ⟨rfl, rfl⟩
        · have hne : c k - 16 ≠ c j - 16 := fun z => e (hlin k j (by omega) h (by omega) h16)
          rw [pk_un hne, pk_un hne]
          exact hb k (by omega) h16
/-- what the contractum is made of, at hand -/
def tr_cb (a b : Nat → Int32) (c T B : Nat → Nat) (s l rl : Nat) : Prop := ∀ k, k < rl → 16 ≤ c (l + k) → a (c (l + k) - 16) = nI (B (c (l + k))) ∧ b (c (l + k) - 16) = nI (tr_E T s (B (c (l + k)))) ∧ B (c (l + k)) < s
theorem tr_ct_len {c T B : Nat → Nat} {s l rl : Nat} (hs : s ≤ 64) (hB : ∀ k, k < rl → 16 ≤ c (l + k) → B (c (l + k)) < s) : ∀ k, k ≤ rl → (tr_ct T c B s l k).length ≤ 64 * k := by
  intro k
  induction k with
  | zero => intro _; exact Nat.le_refl _
  | succ k ih =>
    intro hk
    have := ih (by omega)
    by_cases h : c (l + k) < 16
    · rw [tr_ct_s h, List.length_append]
      have : [c (l + k)].length = 1 := rfl
      omega
    · rw [tr_ct_v h, List.length_append, tr_sg_len]
      have := tr_E_le T (show B (c (l + k)) ≤ s by have := hB k (by omega) (by omega); omega)
      omega
theorem tr_ct_mono {c T B : Nat → Nat} {s l : Nat} : ∀ d k : Nat, (tr_ct T c B s l k).length ≤ (tr_ct T c B s l (k + d)).length := by
  intro d
  induction d with
  | zero => intro k; exact Nat.le_refl _
  | succ d ih =>
    intro k
    refine Nat.le_trans (ih k) ?_
    rw [show k + (d + 1) = (k + d) + 1 from rfl, tr_ct, List.length_append]
    omega
theorem tr_ct_16 {c T B : Nat → Nat} {s l rl : Nat} (hT : ∀ j, j < s → T j < 16) (hB : ∀ k, k < rl → 16 ≤ c (l + k) → B (c (l + k)) < s) : ∀ k, k ≤ rl → tr_16 (tr_ct T c B s l k) := by
  intro k
  induction k with
  | zero => intro _; exact tr_16_0
  | succ k ih =>
    intro hk
    by_cases h : c (l + k) < 16
    · rw [tr_ct_s h]; exact tr_16_a (ih (by omega)) (tr_16_1 h)
    · rw [tr_ct_v h]
      refine tr_16_a (ih (by omega)) (tr_16_sg hT _ (tr_E_le T ?_))
      have := hB k (by omega) (by omega)
      omega
theorem tr_xS1 {post : Int32 → Prop} {c T B : Nat → Nat} {s l rl r : Nat} (hs : s ≤ 64) (hr : r < 12) (hl : l ≤ 12) (hrl : rl ≤ 16) (hZ : qc r = nI (l + rl)) (hC : ∀ j, j < l + rl → qa (r * 28 + j) = nI (c j)) (h24 : ∀ j, j < l + rl → c j < 24)
    (hB : tr_cb qh qi c T B s l rl) (hp : post (nI (tr_ct T c B s l rl).length)) : ∀ n k : Nat, rl + 1 ≤ n + k → k ≤ rl →
    wX_contractumSize_15 post (nI r) (nI (r * 28)) xa xb xc xd xe xf xg xh xi qa qb qc qd qe qf qg qh qi n (nI (tr_ct T c B s l k).length) (nI (l + k)) := by
  intro n
  induction n with
  | zero => intro k a b; omega
  | succ n ih =>
    intro k hn hk
    refine ⟨vp_in_nI hr (by decide), ?_⟩
    have eZ : qc (nI r).toNatClampNeg = nI (l + rl) := by rw [nI_clamp (by omega)]; exact hZ
    rw [eZ]
    refine pk_le (l + rl) (l + k) (fun h => ?_) (fun h => ⟨by rw [nI_add]; exact vp_in_nI (by omega) (by decide), ?_⟩)
    · have e : k = rl := by omega
      subst e
      exact hp
    · have hc := h24 (l + k) h
      have eC : qa (nI (r * 28) + nI (l + k)).toNatClampNeg = nI (c (l + k)) := by rw [nI_add, nI_clamp (by omega)]; exact hC (l + k) h
      rw [eC]
      by_cases h3 : c (l + k) < 16
      · refine nm_e (br_t (pk_sneg (b := 16) (by decide) h3) (nm_r (nI_1 _) (nm_r (nI_1 _) ?_)))
        have H := ih (k + 1) (by omega) (by omega)
        rw [tr_ct_s h3, List.length_append] at H
        exact H
      · obtain ⟨b1, b2, b3⟩ := hB k (by omega) (by omega)
        refine nm_r (e' := nI (c (l + k) - 16)) (pk_sub (b := 16) (by omega)) (br_f (nI_pos (by omega)) ⟨vp_in_nI (by omega) (by decide), ?_⟩)
        rw [nI_clamp (show c (l + k) - 16 < 2 ^ 31 by omega), b2]
        refine nm_r (nI_add _ _) (nm_r (nI_1 _) ?_)
        have H := ih (k + 1) (by omega) (by omega)
        rw [tr_ct_v h3, List.length_append, tr_sg_len] at H
        exact H
theorem tr_xP1 {post : Int32 → SX → Prop} {T : Nat → Nat} {s p cnt : Nat} {L : List Nat} (ht : tr_tm qe T s) (hp : p + cnt ≤ s) (hL : L.length + cnt ≤ 64)
    (k0 : ∀ qg, tr_hl qg (L ++ tr_sg T p cnt) → post (nI (L.length + cnt)) (xa, xb, xc, xd, xe, xf, xg, xh, xi, qa, qb, qc, qd, qe, qf, qg, qh, qi)) : ∀ (n k : Nat) (qg : Nat → Int32), cnt + 1 ≤ n + k → k ≤ cnt → tr_hl qg (L ++ tr_sg T p k) →
    wX_appendPart_3 post (nI L.length) (nI p) (nI cnt) xa xb xc xd xe xf xg xh xi n (nI k) qa qb qc qd qe qf qg qh qi := by
  have hs := ht.1
  intro n
  induction n with
  | zero => intro k qg a b; omega
  | succ n ih =>
    intro k qg hn hk hh
    refine pk_le cnt k (fun h => ?_) (fun h => ⟨by rw [nI_add]; exact vp_in_nI (by omega) (by decide), by rw [nI_add]; exact vp_in_nI (by omega) (by decide), nm_r (e' := upd qg (L ++ tr_sg T p k).length (nI (T (p + k)))) ?_ (nm_r (nI_1 k) (ih (k + 1) _ (by omega) (by omega) ?_))⟩)
    · have e : k = cnt := by omega
      subst e
      rw [nI_add]
      exact k0 qg hh
    · rw [nI_add, nI_add, nI_clamp (by omega), nI_clamp (by omega), ht.2.1 _ (by omega), List.length_append, tr_sg_len]
    · rw [tr_sg_s, ← List.append_assoc]
      exact tr_hl_put hh
theorem tr_xP {post : Int32 → SX → Prop} {T : Nat → Nat} {s p cnt a : Nat} {L : List Nat} (ht : tr_tm qe T s) (ea : L.length = a) (hp : p + cnt ≤ s) (hL : a + cnt ≤ 64) (hh : tr_hl qg L)
    (k0 : ∀ qg, tr_hl qg (L ++ tr_sg T p cnt) → post (nI (a + cnt)) (xa, xb, xc, xd, xe, xf, xg, xh, xi, qa, qb, qc, qd, qe, qf, qg, qh, qi)) : wpX_appendPart post (xa, xb, xc, xd, xe, xf, xg, xh, xi, qa, qb, qc, qd, qe, qf, qg, qh, qi) (nI a) (nI p) (nI cnt) := by
  subst ea
  exact ⟨cnt + 1, tr_xP1 ht hp hL k0 (cnt + 1) 0 qg (by omega) (Nat.zero_le _) (by rw [tr_sg_0, List.append_nil]; exact hh)⟩
theorem tr_xP0 {post : Int32 → SX → Prop} {T : Nat → Nat} {s cnt : Nat} (ht : tr_tm qe T s) (hp : cnt ≤ s)
    (k0 : ∀ qg, tr_hl qg (tr_sg T 0 cnt) → post (nI cnt) (xa, xb, xc, xd, xe, xf, xg, xh, xi, qa, qb, qc, qd, qe, qf, qg, qh, qi)) : wpX_appendPart post (xa, xb, xc, xd, xe, xf, xg, xh, xi, qa, qb, qc, qd, qe, qf, qg, qh, qi) 0 0 (nI cnt) := by
  have hs := ht.1
  refine tr_xP (T := T) (s := s) (p := 0) (a := 0) (L := []) ht rfl (by omega) (by omega) tr_hl_0 (fun qg hg => ?_)
  rw [Nat.zero_add]
  exact k0 qg hg
theorem tr_xC1 {post : Int32 → SX → Prop} {c T B : Nat → Nat} {s l rl r : Nat} {L : List Nat} (ht : tr_tm qe T s) (hr : r < 12) (hl : l ≤ 12) (hrl : rl ≤ 16) (hZ : qc r = nI (l + rl)) (hC : ∀ j, j < l + rl → qa (r * 28 + j) = nI (c j)) (h24 : ∀ j, j < l + rl → c j < 24)
    (hB : tr_cb qh qi c T B s l rl) (hL : (L ++ tr_ct T c B s l rl).length ≤ 64)
    (k0 : ∀ qg, tr_hl qg (L ++ tr_ct T c B s l rl) → post (nI (L ++ tr_ct T c B s l rl).length) (xa, xb, xc, xd, xe, xf, xg, xh, xi, qa, qb, qc, qd, qe, qf, qg, qh, qi)) : ∀ (n k : Nat) (qg : Nat → Int32), rl + 1 ≤ n + k → k ≤ rl → tr_hl qg (L ++ tr_ct T c B s l k) →
    wX_appendContractum_16 post (nI r) (nI (r * 28)) n (nI (L ++ tr_ct T c B s l k).length) (nI (l + k)) xa xb xc xd xe xf xg xh xi qa qb qc qd qe qf qg qh qi := by
  have hs := ht.1
  rw [List.length_append] at hL
  intro n
  induction n with
  | zero => intro k qg a b; omega
  | succ n ih =>
    intro k qg hn hk hh
    refine ⟨vp_in_nI hr (by decide), ?_⟩
    have eZ : qc (nI r).toNatClampNeg = nI (l + rl) := by rw [nI_clamp (by omega)]; exact hZ
    rw [eZ]
    refine pk_le (l + rl) (l + k) (fun h => ?_) (fun h => ⟨by rw [nI_add]; exact vp_in_nI (by omega) (by decide), ?_⟩)
    · have e : k = rl := by omega
      subst e
      exact k0 qg hh
    · have hc := h24 (l + k) h
      have eC : qa (nI (r * 28) + nI (l + k)).toNatClampNeg = nI (c (l + k)) := by rw [nI_add, nI_clamp (by omega)]; exact hC (l + k) h
      have hm := tr_ct_mono (c := c) (T := T) (B := B) (s := s) (l := l) (rl - (k + 1)) (k + 1)
      rw [show k + 1 + (rl - (k + 1)) = rl by omega] at hm
      rw [eC]
      by_cases h3 : c (l + k) < 16
      · rw [tr_ct_s h3, List.length_append] at hm
        have h1 : [c (l + k)].length = 1 := rfl
        refine nm_e (nm_e (br_t (pk_sneg (b := 16) (by decide) h3) ⟨vp_in_nI (by rw [List.length_append]; omega) (by decide), ?_⟩))
        rw [nI_clamp (show (L ++ tr_ct T c B s l k).length < 2 ^ 31 by rw [List.length_append]; omega)]
        refine nm_e (nm_r (nI_1 _) (nm_r (nI_1 _) ?_))
        have H := ih (k + 1) _ (by omega) (by omega) (by rw [tr_ct_s h3, ← List.append_assoc]; exact tr_hl_put hh)
        rw [tr_ct_s h3, ← List.append_assoc, List.length_append] at H
        exact H
      · obtain ⟨b1, b2, b3⟩ := hB k (by omega) (by omega)
        rw [tr_ct_v h3, List.length_append, tr_sg_len] at hm
        refine nm_e (nm_r (e' := nI (c (l + k) - 16)) (pk_sub (b := 16) (by omega)) (br_f (nI_pos (by omega)) ⟨vp_in_nI (by omega) (by decide), vp_in_nI (by omega) (by decide), ?_⟩))
        rw [nI_clamp (show c (l + k) - 16 < 2 ^ 31 by omega), b1, b2]
        refine tr_xP ht rfl (tr_E_le T (by omega)) (by rw [List.length_append]; omega) hh (fun qg' hh' => nm_r (nI_1 _) ?_)
        have H := ih (k + 1) qg' (by omega) (by omega) (by rw [tr_ct_v h3, ← List.append_assoc]; exact hh')
        rw [tr_ct_v h3, ← List.append_assoc, List.length_append, tr_sg_len] at H
        exact H
theorem tr_xC {post : Int32 → SX → Prop} {c T B : Nat → Nat} {s l rl r a : Nat} {L : List Nat} (ht : tr_tm qe T s) (ea : L.length = a) (hr : r < 12) (hl : l ≤ 12) (hrl : rl ≤ 16) (hQ : qb r = nI l) (hZ : qc r = nI (l + rl)) (hC : ∀ j, j < l + rl → qa (r * 28 + j) = nI (c j)) (h24 : ∀ j, j < l + rl → c j < 24)
    (hB : tr_cb qh qi c T B s l rl) (hL : a + (tr_ct T c B s l rl).length ≤ 64) (hh : tr_hl qg L)
    (k0 : ∀ qg, tr_hl qg (L ++ tr_ct T c B s l rl) → post (nI (a + (tr_ct T c B s l rl).length)) (xa, xb, xc, xd, xe, xf, xg, xh, xi, qa, qb, qc, qd, qe, qf, qg, qh, qi)) : wpX_appendContractum post (xa, xb, xc, xd, xe, xf, xg, xh, xi, qa, qb, qc, qd, qe, qf, qg, qh, qi) (nI a) (nI r) := by
  subst ea
  have e0 : L ++ tr_ct T c B s l 0 = L := List.append_nil L
  have H := tr_xC1 (L := L) (T := T) (B := B) (s := s) (l := l) (rl := rl) (c := c) ht hr hl hrl hZ hC h24 hB (by rw [List.length_append]; exact hL) (fun qg hg => by rw [List.length_append]; exact k0 qg hg) (rl + 1) 0 qg (by omega) (Nat.zero_le _) (by rw [e0]; exact hh)
  rw [e0] at H
  exact nm_r (tr_m28 r) ⟨vp_in_nI hr (by decide), nm_r (by rw [nI_clamp (by omega)]; exact hQ) ⟨rl + 1, H⟩⟩
theorem tr_xB {post : SX → Prop} {c T : Nat → Nat} {s i l r : Nat} (ht : tr_tm qe T s) (hr : r < 12) (hl : l ≤ 12) (hL : qb r = nI l) (hC : ∀ j, j < l → qa (r * 28 + j) = nI (c j)) (h24 : ∀ j, j < l → c j < 24)
    (hlin : ∀ j k, j < l → k < l → c j = c k → 16 ≤ c j → j = k) (ha : tr_ap c T s i l) (hp : ∀ qh qi, tr_bd qh qi c T s i l → post (xa, xb, xc, nI s, xe, xf, xg, xh, xi, qa, qb, qc, qd, qe, qf, qg, qh, qi)) : wpX_bindVariables post (xa, xb, xc, nI s, xe, xf, xg, xh, xi, qa, qb, qc, qd, qe, qf, qg, qh, qi) (nI r) (nI i) :=
  nm_r (tr_m28 r) ⟨l + 1, tr_xB1 ht hr hl hL hC h24 hlin ha hp (l + 1) 0 qh qi (by omega) (Nat.zero_le _) (fun j h => absurd h (Nat.not_lt_zero _))⟩
theorem tr_xS {post : Int32 → Prop} {c T B : Nat → Nat} {s l rl r : Nat} (hs : s ≤ 64) (hr : r < 12) (hl : l ≤ 12) (hrl : rl ≤ 16) (hQ : qb r = nI l) (hZ : qc r = nI (l + rl)) (hC : ∀ j, j < l + rl → qa (r * 28 + j) = nI (c j)) (h24 : ∀ j, j < l + rl → c j < 24)
    (hB : tr_cb qh qi c T B s l rl) (hp : post (nI (tr_ct T c B s l rl).length)) : wpX_contractumSize post (xa, xb, xc, xd, xe, xf, xg, xh, xi, qa, qb, qc, qd, qe, qf, qg, qh, qi) (nI r) :=
  nm_r (tr_m28 r) ⟨vp_in_nI hr (by decide), nm_r (e' := nI l) (by rw [nI_clamp (by omega)]; exact hQ) ⟨rl + 1, tr_xS1 hs hr hl hrl hZ hC h24 hB hp (rl + 1) 0 (by omega) (Nat.zero_le _)⟩⟩
theorem tr_x82 {post : Int32 → SX → Prop} {r : Nat} {L : List Nat} (hr : r < 12) (hL : L.length ≤ 64) (hh : tr_hl qg L)
    (k0 : ∀ qe, tr_hl qe L → post 1 (xa, xb, xc, nI L.length, xe + 1, xf, xg, xh, xi, qa, qb, qc, upd qd r (qd r + 1), qe, qf, qg, qh, qi)) : ∀ (n k : Nat) (qe : Nat → Int32), L.length + 1 ≤ n + k → k ≤ L.length → tr_la qe (fun q => L.getD q 0) k →
    wX_rewriteAt_82 post (nI r) (nI L.length) xa xb xc xd xe xf xg xh xi n (nI k) qa qb qc qd qe qf qg qh qi := by
  intro n
  induction n with
  | zero => intro k qe a b; omega
  | succ n ih =>
    intro k qe hn hk hq
    refine pk_le L.length k (fun h => ?_) (fun h => ⟨vp_in_nI (by omega) (by decide), vp_in_nI (by omega) (by decide), ?_⟩)
    · have e : k = L.length := by omega
      subst e
      refine nm_e ⟨vp_in_nI hr (by decide), vp_in_nI hr (by decide), ?_⟩
      rw [nI_clamp (show r < 2 ^ 31 by omega)]
      exact nm_e (k0 qe hq)
    · rw [nI_clamp (show k < 2 ^ 31 by omega)]
      refine nm_e (nm_r (nI_1 k) (ih (k + 1) _ (by omega) (by omega) fun j hj => ?_))
      by_cases e : j = k
      · subst e; rw [pk_us]; exact hh j h
      · rw [pk_un e]; exact hq j (by omega)
/-- the term after a step -/
def tr_L (T c B : Nat → Nat) (s i l rl : Nat) : List Nat := (tr_sg T 0 i ++ tr_ct T c B s l rl) ++ tr_sg T (i + tr_E T s i) (s - (i + tr_E T s i))
theorem tr_L_len {T c B : Nat → Nat} {s i l rl : Nat} : (tr_L T c B s i l rl).length = i + (tr_ct T c B s l rl).length + (s - (i + tr_E T s i)) := by
  unfold tr_L
  rw [List.length_append, List.length_append, tr_sg_len, tr_sg_len]
theorem tr_xW {post : Int32 → SX → Prop} {T B : Nat → Nat} {s i rc r TL : Nat} {R : Nat → TrD} (ht : tr_tm qe T s) (hTL : TL ≤ 64) (hR : tr_rl qa qb R rc) (hZ : ∀ q, q < rc → qc q = nI ((R q).1 + (R q).2.1)) (hi : i < s) (hra : tr_ra R rc T s i = some r)
    (hB : ∀ j, j < (R r).1 → 16 ≤ (R r).2.2.2 j → B ((R r).2.2.2 j) = tr_ps (R r).2.2.2 T s i j)
    (k1 : (tr_L T (R r).2.2.2 B s i (R r).1 (R r).2.1).length ≤ TL → ∀ qe qg qh qi, tr_hl qe (tr_L T (R r).2.2.2 B s i (R r).1 (R r).2.1) → post 1 (xa, nI TL, nI rc, nI (tr_L T (R r).2.2.2 B s i (R r).1 (R r).2.1).length, xe + 1, xf, xg, xh, xi, qa, qb, qc, upd qd r (qd r + 1), qe, qf, qg, qh, qi))
    (k0 : TL < (tr_L T (R r).2.2.2 B s i (R r).1 (R r).2.1).length → ∀ qh qi, post 0 (xa, nI TL, nI rc, nI s, xe, xf, xg, xh, xi, qa, qb, qc, qd, qe, qf, qg, qh, qi)) : wpX_rewriteAt post (xa, nI TL, nI rc, nI s, xe, xf, xg, xh, xi, qa, qb, qc, qd, qe, qf, qg, qh, qi) (nI i) := by
  have hs := ht.1
  have hrc := hR.1
  have hr := tr_ra_lt hra
  obtain ⟨ok, hQ, hC⟩ := hR.2 r hr
  have hap := (tr_fr_some _ _ hra).2.2.1
  have hE := tr_E_le T (show i ≤ s by omega)
  have hrl := ok.2.1
  have hLl := tr_L_len (T := T) (c := (R r).2.2.2) (B := B) (s := s) (i := i) (l := (R r).1) (rl := (R r).2.1)
  unfold wpX_rewriteAt
  refine tr_xR ht hR hi ?_
  rw [hra, tr_oi_s]
  refine tr_xE ht (by omega) ?_
  refine tr_xB ht (by omega) ok.1 hQ (fun j hj => hC j (by omega)) (fun j hj => ok.2.2.1 j (by omega)) ok.2.2.2.1 hap (fun qh qi hb => ?_)
  have hcb : tr_cb qh qi (R r).2.2.2 T B s (R r).1 (R r).2.1 := fun k hk h16 => by
    obtain ⟨j, hj, e⟩ := ok.2.2.2.2 ((R r).1 + k) (by omega) (by omega) h16
    rw [← e] at h16 ⊢
    rw [hB j hj h16]
    exact ⟨(hb j hj h16).1, (hb j hj h16).2, (hap j hj).1⟩
  have hlen := tr_ct_len (T := T) (c := (R r).2.2.2) (B := B) (l := (R r).1) (rl := (R r).2.1) hs (fun k hk h16 => (hcb k hk h16).2.2) (R r).2.1 (Nat.le_refl _)
  refine tr_xS hs (by omega) ok.1 ok.2.1 hQ (hZ r hr) hC ok.2.2.1 hcb ?_
  refine pk_le (s - tr_E T s i + (tr_ct T (R r).2.2.2 B s (R r).1 (R r).2.1).length) TL (fun h => ?_) (fun h => k0 (by omega) qh qi) (hx := by rw [pk_sub (by omega), nI_add])
  refine nm_r (nI_add _ _) ?_
  refine tr_xP0 ht (by omega) (fun qg hg => ?_)
  refine tr_xC ht (tr_sg_len T 0 i) (by omega) ok.1 ok.2.1 hQ (hZ r hr) hC ok.2.2.1 hcb (by omega) hg (fun qg2 hg2 => ?_)
  dsimp only
  rw [pk_sub hE]
  refine tr_xP ht (by rw [List.length_append, tr_sg_len]) (by omega) (by omega) hg2 (fun qg3 hg3 => ?_)
  dsimp only
  rw [← hLl]
  exact ⟨_, tr_x82 (L := tr_L T (R r).2.2.2 B s i (R r).1 (R r).2.1) (by omega) (by omega) hg3 (fun qe2 hh => k1 (by omega) qe2 qg3 qh qi hh) ((tr_L T (R r).2.2.2 B s i (R r).1 (R r).2.1).length + 1) 0 qe (by omega) (Nat.zero_le _) (fun j h => absurd h (Nat.not_lt_zero _))⟩
end TRE
end
section
section TRF
variable {xa xb xc xd xe xf xg xh xi ya yb yc yd ye yf yg yh yi : Int32} {qa qb qc qd qe qf qg qh qi pa pb pc pd pe pf pg : Nat → Int32}
/-! one step of the reference -/
abbrev TrJ : Type := Int32 → Int32 → (Nat → Int32) → (Nat → Int32) → (Nat → Int32) → (Nat → Int32) → (Nat → Int32) → (Nat → Int32) → (Nat → Int32) → Prop
theorem tr_y127 {post : Int32 → SY → Prop} {J : TrJ} {T : Nat → Nat} {s p cnt : Nat} {L : List Nat} {x1 x2 x4 x5 : Int32} (ht : tr_tm pe T s) (hp : p + cnt ≤ s) (hL : L.length + cnt ≤ 1100)
    (k0 : ∀ pg, tr_hl pg (L ++ tr_sg T p cnt) → J (nI (L.length + cnt)) (x5 + 1) pa pb pc pd pe pf pg) : ∀ (n k : Nat) (pg : Nat → Int32), cnt + 1 ≤ n + k → k ≤ cnt → tr_hl pg (L ++ tr_sg T p k) →
    wY_rewrite_127 post J x1 x2 x4 x5 (nI p) (nI cnt) ya yb yc yd ye yf yg yh yi n (nI (L.length + k)) (nI k) pa pb pc pd pe pf pg := by
  have hs := ht.1
  intro n
  induction n with
  | zero => intro k pg a b; omega
  | succ n ih =>
    intro k pg hn hk hh
    refine pk_le cnt k (fun h => nm_e ?_) (fun h => nm_r (nI_1 _) ⟨by rw [nI_add]; exact vp_in_nI (by omega) (by decide), vp_in_nI (by omega) (by decide), nm_r (e' := upd pg (L ++ tr_sg T p k).length (nI (T (p + k)))) ?_ (nm_r (nI_1 k) (ih (k + 1) _ (by omega) (by omega) ?_))⟩)
    · have e : k = cnt := by omega
      subst e
      exact k0 pg hh
    · rw [nI_add, nI_clamp (by omega), nI_clamp (by omega), ht.2.1 _ (by omega), List.length_append, tr_sg_len]
    · rw [tr_sg_s, ← List.append_assoc]
      exact tr_hl_put hh
theorem tr_y45 {post : Int32 → SY → Prop} {T B : Nat → Nat} {s i rc r : Nat} {R : Nat → TrD} {L : List Nat} {x4 : Int32} (ht : tr_tm pe T s) (hR : tr_rl pa pb R rc) (hZ : ∀ q, q < rc → pc q = nI (R q).2.1) (hi : i < s) (hr : r < rc)
    (hB : ∀ k, k < (R r).2.1 → 16 ≤ (R r).2.2.2 ((R r).1 + k) → B ((R r).2.2.2 ((R r).1 + k)) < s ∧ tr_wr (R r).2.2.2 T s i (nI ((R r).2.2.2 ((R r).1 + k))) (R r).1 0 = nI (B ((R r).2.2.2 ((R r).1 + k))))
    (hL : (L ++ tr_ct T (R r).2.2.2 B s (R r).1 (R r).2.1).length < 1100)
    (k0 : ∀ pg, tr_hl pg (L ++ tr_ct T (R r).2.2.2 B s (R r).1 (R r).2.1) → ∃ n, wY_rewrite_169 post ya yb yc (nI s) ye yf yg yh yi n (nI (L ++ tr_ct T (R r).2.2.2 B s (R r).1 (R r).2.1).length) x4 pa pb pc pd pe pf pg) :
    ∀ (n k : Nat) (pg : Nat → Int32), (R r).2.1 + 1 ≤ n + k → k ≤ (R r).2.1 → tr_hl pg (L ++ tr_ct T (R r).2.2.2 B s (R r).1 k) →
    wY_rewrite_45 post (nI i) (nI r) x4 ya yb yc (nI s) ye yf yg yh yi n (nI (L ++ tr_ct T (R r).2.2.2 B s (R r).1 k).length) (nI k) pa pb pc pd pe pf pg := by
  have hs := ht.1
  have hrc := hR.1
  obtain ⟨ok, hQ, hC⟩ := hR.2 r hr
  have hl := ok.1
  have hrl := ok.2.1
  have hZr := hZ r hr
  rw [List.length_append] at hL
  intro n
  induction n with
  | zero => intro k pg a b; omega
  | succ n ih =>
    intro k pg hn hk hh
    refine ⟨vp_in_nI (by omega) (by decide), ?_⟩
    have eZ : pc (nI r).toNatClampNeg = nI (R r).2.1 := by rw [nI_clamp (by omega)]; exact hZr
    have eQ : pb (nI r).toNatClampNeg = nI (R r).1 := by rw [nI_clamp (by omega)]; exact hQ
    rw [eZ, eQ]
    refine pk_le (R r).2.1 k (fun h => ?_) (fun h => ⟨vp_in_nI (by omega) (by decide), by rw [tr_28, nI_add]; exact vp_in_nI (by omega) (by decide), nm_r (e' := nI ((R r).2.2.2 ((R r).1 + k))) ?_ (tr_yW ht hR hr (by omega) ?_)⟩)
    · have e : k = (R r).2.1 := by omega
      subst e
      exact k0 pg hh
    · rw [tr_28, nI_add, nI_clamp (by omega), Nat.add_assoc]
      exact hC ((R r).1 + k) (by omega)
    · have hc := ok.2.2.1 ((R r).1 + k) (by omega)
      have hm := tr_ct_mono (c := (R r).2.2.2) (T := T) (B := B) (s := s) (l := (R r).1) ((R r).2.1 - (k + 1)) (k + 1)
      rw [show k + 1 + ((R r).2.1 - (k + 1)) = (R r).2.1 by omega] at hm
      by_cases h3 : (R r).2.2.2 ((R r).1 + k) < 16
      · rw [tr_ct_s h3, List.length_append] at hm
        have h1 : [(R r).2.2.2 ((R r).1 + k)].length = 1 := rfl
        have hlen : (L ++ tr_ct T (R r).2.2.2 B s (R r).1 k).length < 1100 := by rw [List.length_append]; omega
        refine pk_le 16 ((R r).2.2.2 ((R r).1 + k)) (fun z => absurd z (by omega)) (fun _ => pk_le 16 ((R r).2.2.2 ((R r).1 + k)) (fun z => absurd z (by omega)) (fun _ => nm_r (nI_1 _) ⟨vp_in_nI hlen (by decide), ?_⟩))
        rw [nI_clamp (show (L ++ tr_ct T (R r).2.2.2 B s (R r).1 k).length < 2 ^ 31 by omega)]
        refine nm_e ⟨1, br_t (by decide) (nm_r (nI_1 k) ?_)⟩
        have H := ih (k + 1) _ (by omega) (by omega) (by rw [tr_ct_s h3, ← List.append_assoc]; exact tr_hl_put hh)
        rw [tr_ct_s h3, ← List.append_assoc, List.length_append] at H
        exact H
      · obtain ⟨b1, b2⟩ := hB k (by omega) (by omega)
        rw [tr_ct_v h3, List.length_append, tr_sg_len] at hm
        rw [b2]
        refine pk_le 16 ((R r).2.2.2 ((R r).1 + k)) (fun _ => tr_yE ht (by omega) ?_) (fun z => absurd z (by omega))
        refine pk_le 16 ((R r).2.2.2 ((R r).1 + k)) (fun _ => ⟨tr_E T s (B ((R r).2.2.2 ((R r).1 + k))) + 1, ?_⟩) (fun z => absurd z (by omega))
        refine tr_y127 (L := L ++ tr_ct T (R r).2.2.2 B s (R r).1 k) ht (tr_E_le T (show B ((R r).2.2.2 ((R r).1 + k)) ≤ s by omega)) (by rw [List.length_append]; omega) (fun pg2 hg => ?_) _ 0 pg (by omega) (Nat.zero_le _) (by rw [tr_sg_0, List.append_nil]; exact hh)
        rw [nI_1 k]
        have H := ih (k + 1) pg2 (by omega) (by omega) (by rw [tr_ct_v h3, ← List.append_assoc]; exact hg)
        rw [tr_ct_v h3, ← List.append_assoc, List.length_append, tr_sg_len] at H
        exact H
theorem tr_y213 {post : Int32 → SY → Prop} {L : List Nat} (hL : L.length ≤ 64) (hh : tr_hl pg L) (k0 : ∀ pe, tr_hl pe L → post 1 (ya, yb, yc, nI L.length, ye, yf, yg, yh, yi, pa, pb, pc, pd, pe, pf, pg)) : ∀ (n k : Nat) (pe : Nat → Int32), L.length + 1 ≤ n + k → k ≤ L.length → tr_la pe (fun q => L.getD q 0) k →
    wY_rewrite_213 post (nI L.length) ya yb yc yd ye yf yg yh yi n (nI k) pa pb pc pd pe pf pg := by
  intro n
  induction n with
  | zero => intro k pe a b; omega
  | succ n ih =>
    intro k pe hn hk hq
    refine pk_le L.length k (fun h => ?_) (fun h => ⟨vp_in_nI (by omega) (by decide), vp_in_nI (by omega) (by decide), ?_⟩)
    · have e : k = L.length := by omega
      subst e
      exact k0 pe hq
    · rw [nI_clamp (show k < 2 ^ 31 by omega)]
      refine nm_e (nm_r (nI_1 k) (ih (k + 1) _ (by omega) (by omega) fun j hj => ?_))
      by_cases e : j = k
      · subst e; rw [pk_us]; exact hh j h
      · rw [pk_un e]; exact hq j (by omega)
theorem tr_y169 {post : Int32 → SY → Prop} {T : Nat → Nat} {s p cnt TL : Nat} {L : List Nat} (ht : tr_tm pe T s) (hTL : TL ≤ 64) (hp : p + cnt = s) (hL : L.length + cnt ≤ 1100)
    (k1 : L.length + cnt ≤ TL → ∀ pg, tr_hl pg (L ++ tr_sg T p cnt) → ∃ n, wY_rewrite_213 post (nI (L.length + cnt)) ya (nI TL) yc (nI s) ye yf yg yh yi n 0 pa pb pc pd pe pf pg) (k0 : TL < L.length + cnt → ∀ pg, post 0 (ya, nI TL, yc, nI s, ye, yf, yg, yh, yi, pa, pb, pc, pd, pe, pf, pg)) :
    ∀ (n k : Nat) (pg : Nat → Int32), cnt + 1 ≤ n + k → k ≤ cnt → tr_hl pg (L ++ tr_sg T p k) → wY_rewrite_169 post ya (nI TL) yc (nI s) ye yf yg yh yi n (nI (L.length + k)) (nI (p + k)) pa pb pc pd pe pf pg := by
  have hs := ht.1
  intro n
  induction n with
  | zero => intro k pg a b; omega
  | succ n ih =>
    intro k pg hn hk hh
    refine pk_le s (p + k) (fun h => ?_) (fun h => nm_r (nI_1 _) ⟨vp_in_nI (by omega) (by decide), vp_in_nI (by omega) (by decide), nm_r (e' := upd pg (L ++ tr_sg T p k).length (nI (T (p + k)))) ?_ (nm_r (nI_1 _) (ih (k + 1) _ (by omega) (by omega) ?_))⟩)
    · have e : k = cnt := by omega
      subst e
      exact pk_le (L.length + k) TL (fun h2 => k1 h2 pg hh) (fun h2 => k0 h2 pg)
    · rw [nI_clamp (by omega), nI_clamp (by omega), ht.2.1 _ (by omega), List.length_append, tr_sg_len]
    · rw [tr_sg_s, ← List.append_assoc]
      exact tr_hl_put hh
theorem tr_y14 {post : Int32 → SY → Prop} {T : Nat → Nat} {s i : Nat} {x2 x4 : Int32} (ht : tr_tm pe T s) (hi : i ≤ s)
    (k0 : ∀ pg, tr_hl pg (tr_sg T 0 i) → ∃ n, wY_rewrite_45 post (nI i) x2 x4 ya yb yc yd ye yf yg yh yi n (nI i) 0 pa pb pc pd pe pf pg) : ∀ (n k : Nat) (pg : Nat → Int32), i + 1 ≤ n + k → k ≤ i → tr_hl pg (tr_sg T 0 k) →
    wY_rewrite_14 post (nI i) x2 x4 ya yb yc yd ye yf yg yh yi n (nI k) (nI k) pa pb pc pd pe pf pg := by
  have hs := ht.1
  intro n
  induction n with
  | zero => intro k pg a b; omega
  | succ n ih =>
    intro k pg hn hk hh
    refine pk_le i k (fun h => ?_) (fun h => nm_r (nI_1 _) ⟨vp_in_nI (by omega) (by decide), vp_in_nI (by omega) (by decide), nm_r (e' := upd pg (tr_sg T 0 k).length (nI (T (0 + k)))) ?_ (nm_r (nI_1 _) (ih (k + 1) _ (by omega) (by omega) ?_))⟩)
    · have e : k = i := by omega
      subst e
      exact k0 pg hh
    · rw [nI_clamp (by omega), ht.2.1 _ (by omega), tr_sg_len, Nat.zero_add]
    · rw [tr_sg_s]
      exact tr_hl_put hh
theorem tr_yX {post : Int32 → SY → Prop} {T B : Nat → Nat} {s i rc r TL : Nat} {R : Nat → TrD} (ht : tr_tm pe T s) (hTL : TL ≤ 64) (hR : tr_rl pa pb R rc) (hZ : ∀ q, q < rc → pc q = nI (R q).2.1) (hi : i < s) (hra : tr_ra R rc T s i = some r)
    (hB : ∀ j, j < (R r).1 → 16 ≤ (R r).2.2.2 j → B ((R r).2.2.2 j) = tr_ps (R r).2.2.2 T s i j)
    (k1 : (tr_L T (R r).2.2.2 B s i (R r).1 (R r).2.1).length ≤ TL → ∀ pe pg, tr_hl pe (tr_L T (R r).2.2.2 B s i (R r).1 (R r).2.1) → post 1 (ya, nI TL, yc, nI (tr_L T (R r).2.2.2 B s i (R r).1 (R r).2.1).length, ye, yf, yg, yh, yi, pa, pb, pc, pd, pe, pf, pg))
    (k0 : TL < (tr_L T (R r).2.2.2 B s i (R r).1 (R r).2.1).length → ∀ pg, post 0 (ya, nI TL, yc, nI s, ye, yf, yg, yh, yi, pa, pb, pc, pd, pe, pf, pg)) : wpY_rewrite post (ya, nI TL, yc, nI s, ye, yf, yg, yh, yi, pa, pb, pc, pd, pe, pf, pg) (nI i) (nI r) := by
  have hs := ht.1
  have hr := tr_ra_lt hra
  obtain ⟨ok, hQ, hC⟩ := hR.2 r hr
  have hap := (tr_fr_some _ _ hra).2.2.1
  have hE := tr_E_le T (show i ≤ s by omega)
  have hrl := ok.2.1
  have hLl := tr_L_len (T := T) (c := (R r).2.2.2) (B := B) (s := s) (i := i) (l := (R r).1) (rl := (R r).2.1)
  have hB2 : ∀ k, k < (R r).2.1 → 16 ≤ (R r).2.2.2 ((R r).1 + k) → B ((R r).2.2.2 ((R r).1 + k)) < s ∧ tr_wr (R r).2.2.2 T s i (nI ((R r).2.2.2 ((R r).1 + k))) (R r).1 0 = nI (B ((R r).2.2.2 ((R r).1 + k))) := fun k hk h16 => by
    obtain ⟨j, hj, e⟩ := ok.2.2.2.2 ((R r).1 + k) (by omega) (by omega) h16
    rw [← e] at h16 ⊢
    rw [hB j hj h16]
    refine ⟨(hap j hj).1, ?_⟩
    have h24 := ok.2.2.1 j (by omega)
    exact tr_wr_v (by omega) (fun m hm => by have := ok.2.2.1 m (by omega); omega) hj rfl (fun m hm e2 => ok.2.2.2.1 m j hm hj e2 (by omega)) hap (R r).1 0 (by omega) (Nat.zero_le _)
  have hlen := tr_ct_len (T := T) (c := (R r).2.2.2) (B := B) (l := (R r).1) (rl := (R r).2.1) hs (fun k hk h16 => (hB2 k hk h16).1) (R r).2.1 (Nat.le_refl _)
  have e0 : tr_sg T 0 i ++ tr_ct T (R r).2.2.2 B s (R r).1 0 = tr_sg T 0 i := List.append_nil _
  have e1 : (tr_sg T 0 i ++ tr_ct T (R r).2.2.2 B s (R r).1 (R r).2.1).length = i + (tr_ct T (R r).2.2.2 B s (R r).1 (R r).2.1).length := by rw [List.length_append, tr_sg_len]
  unfold wpY_rewrite
  refine tr_yE ht (by omega) ?_
  refine nm_r (nI_add _ _) ⟨i + 1, tr_y14 ht (by omega) (fun pg2 hg => ?_) (i + 1) 0 pg (by omega) (Nat.zero_le _) tr_hl_0⟩
  have K : ∀ pg, tr_hl pg (tr_sg T 0 i ++ tr_ct T (R r).2.2.2 B s (R r).1 (R r).2.1) → ∃ n, wY_rewrite_169 post ya (nI TL) yc (nI s) ye yf yg yh yi n (nI (tr_sg T 0 i ++ tr_ct T (R r).2.2.2 B s (R r).1 (R r).2.1).length) (nI (i + tr_E T s i)) pa pb pc pd pe pf pg := fun pg3 hg3 => by
    refine ⟨s - (i + tr_E T s i) + 1, tr_y169 (L := tr_sg T 0 i ++ tr_ct T (R r).2.2.2 B s (R r).1 (R r).2.1) (p := i + tr_E T s i) (cnt := s - (i + tr_E T s i)) ht hTL (by omega) (by rw [e1]; omega) (fun h pg4 hg4 => ?_) (fun h pg4 => k0 (by rw [hLl]; rw [e1] at h; exact h) pg4) _ 0 pg3 (by omega) (Nat.zero_le _) (by rw [tr_sg_0, List.append_nil]; exact hg3)⟩
    rw [e1, ← hLl]
    rw [e1, ← hLl] at h
    exact ⟨_, tr_y213 (L := tr_L T (R r).2.2.2 B s i (R r).1 (R r).2.1) (by omega) hg4 (fun pe2 hh => k1 h pe2 pg4 hh) ((tr_L T (R r).2.2.2 B s i (R r).1 (R r).2.1).length + 1) 0 pe (Nat.le_refl _) (Nat.zero_le _) (fun j hj => absurd hj (Nat.not_lt_zero _))⟩
  have H := tr_y45 (B := B) (L := tr_sg T 0 i) ht hR hZ hi hr hB2 (by rw [e1]; omega) K ((R r).2.1 + 1) 0 pg2 (by omega) (Nat.zero_le _) (by rw [e0]; exact hg)
  rw [e0, tr_sg_len] at H
  exact ⟨_, H⟩
end TRF
end
section
section TRG
variable {xa xb xc xd xe xf xg xh xi ya yb yc yd ye yf yg yh yi : Int32} {qa qb qc qd qe qf qg qh qi pa pb pc pd pe pf pg : Nat → Int32}
/-! the relation -/
def tr_xr (a b d u : Nat → Int32) (q : Nat) (D : TrD) : Prop := b q = nI D.1 ∧ d q = nI (D.1 + D.2.1) ∧ u q = D.2.2.1 ∧ ∀ j, j < D.1 + D.2.1 → a (q * 28 + j) = nI (D.2.2.2 j)
def tr_yr (a b d u : Nat → Int32) (q : Nat) (D : TrD) : Prop := b q = nI D.1 ∧ d q = nI D.2.1 ∧ u q = D.2.2.1 ∧ ∀ j, j < D.1 + D.2.1 → a (q * 28 + j) = nI (D.2.2.2 j)
/-- the rules held -/
def tr_R (qa qb qc qd pa pb pc pd : Nat → Int32) (R : Nat → TrD) (rc : Nat) : Prop := ∀ q, q < rc → tr_ok (R q) ∧ tr_xr qa qb qc qd q (R q) ∧ tr_yr pa pb pc pd q (R q)
def tr_lin (en : Nat → Nat) (n : Nat) : Prop := ∀ j k, j < n → k < n → en j = en k → 16 ≤ en j → j = k
/-- an entry under way: n cells of the side accepted, m terms missing, el cells of the left side ahead of them -/
def tr_en (md TL n m el : Nat) (yi : Int32) (en : Nat → Nat) : Prop :=
  (md = 1 ∧ el = 0 ∧ n + m ≤ 12 ∧ (∀ j, j < n → en j < 24) ∧ tr_lin en n) ∨
  (md = 2 ∧ yi = nI el ∧ el ≤ 12 ∧ n + m ≤ 16 ∧ (∀ j, j < el + n → en j < 24) ∧ tr_lin en el ∧ (∀ j, el ≤ j → j < el + n → 16 ≤ en j → ∃ k, k < el ∧ en k = en j)) ∨
  (md = 3 ∧ el = 0 ∧ n + m ≤ TL ∧ ∀ j, j < n → en j < 16)
def tr_ent (RL TL rc md : Nat) (xg xh xi yg yh yi : Int32) (qf pf : Nat → Int32) : Prop :=
  md = 0 ∨ ∃ (n m el : Nat) (en : Nat → Nat), xg = nI (el + n) ∧ xh = nI el ∧ xi = nI m ∧ yg = nI n ∧ yh = nI m ∧ 1 ≤ m ∧ tr_la qf en (el + n) ∧ tr_la pf en (el + n) ∧ (md = 3 ∨ rc < RL) ∧ tr_en md TL n m el yi en
def tr_inv (RL TL rc s md : Nat) (R : Nat → TrD) (T : Nat → Nat) (xg xh xi yg yh yi : Int32) (qa qb qc qd qe qf pa pb pc pd pe pf : Nat → Int32) : Prop :=
  (1 ≤ RL ∧ RL ≤ 12 ∧ 8 ≤ TL ∧ TL ≤ 64 ∧ rc ≤ RL ∧ s ≤ TL ∧ md ≤ 3) ∧ tr_R qa qb qc qd pa pb pc pd R rc ∧ (tr_la qe T s ∧ tr_la pe T s ∧ ∀ j, j < s → T j < 16) ∧ tr_ent RL TL rc md xg xh xi yg yh yi qf pf
def i_Rel (_ : Nat) (u : SX) (v : SY) : Prop := ∃ (RL TL rc s md : Nat) (R : Nat → TrD) (T : Nat → Nat) (sc xg xh xi yg yh yi : Int32) (qa qb qc qd qe qf qg qh qi pa pb pc pd pe pf pg : Nat → Int32),
  u = (nI RL, nI TL, nI rc, nI s, sc, nI md, xg, xh, xi, qa, qb, qc, qd, qe, qf, qg, qh, qi) ∧ v = (nI RL, nI TL, nI rc, nI s, sc, nI md, yg, yh, yi, pa, pb, pc, pd, pe, pf, pg) ∧ tr_inv RL TL rc s md R T xg xh xi yg yh yi qa qb qc qd qe qf pa pb pc pd pe pf
theorem i_up {k : Nat} {u : SX} {v : SY} (h : i_Rel k u v) : i_Rel (k + 3) u v := h
theorem tr_mk {k RL TL rc s md : Nat} {R : Nat → TrD} {T : Nat → Nat} {sc : Int32} (h : tr_inv RL TL rc s md R T xg xh xi yg yh yi qa qb qc qd qe qf pa pb pc pd pe pf) :
    i_Rel k (nI RL, nI TL, nI rc, nI s, sc, nI md, xg, xh, xi, qa, qb, qc, qd, qe, qf, qg, qh, qi) (nI RL, nI TL, nI rc, nI s, sc, nI md, yg, yh, yi, pa, pb, pc, pd, pe, pf, pg) :=
  ⟨RL, TL, rc, s, md, R, T, sc, xg, xh, xi, yg, yh, yi, qa, qb, qc, qd, qe, qf, qg, qh, qi, pa, pb, pc, pd, pe, pf, pg, rfl, rfl, h⟩
theorem tr_inv0 {RL TL : Nat} (h1 : 1 ≤ RL) (h2 : RL ≤ 12) (h3 : 8 ≤ TL) (h4 : TL ≤ 64) {R : Nat → TrD} {T : Nat → Nat} : tr_inv RL TL 0 0 0 R T xg xh xi yg yh yi qa qb qc qd qe qf pa pb pc pd pe pf :=
  ⟨⟨h1, h2, h3, h4, Nat.zero_le _, Nat.zero_le _, Nat.zero_le _⟩, fun q h => absurd h (Nat.not_lt_zero _), ⟨fun j h => absurd h (Nat.not_lt_zero _), fun j h => absurd h (Nat.not_lt_zero _), fun j h => absurd h (Nat.not_lt_zero _)⟩, Or.inl rfl⟩
theorem tr_clamp (x : Int32) (a b : Nat) (hab : a ≤ b) (hb : b < 2 ^ 31) : ∃ n : Nat, a ≤ n ∧ n ≤ b ∧ ((¬ nI a ≤ x ∧ n = a) ∨ (nI a ≤ x ∧ ¬ x ≤ nI b ∧ n = b) ∨ (nI a ≤ x ∧ x ≤ nI b ∧ x = nI n)) := by
  by_cases h1 : nI a ≤ x
  · by_cases h2 : x ≤ nI b
    · have h0 : ¬ x < 0 := Int32.not_lt.mpr (Int32.le_trans (nI_pos' (n := a) (by omega)) h1)
      obtain ⟨j, hj, rfl⟩ := nI_of h0
      rw [nI_leI (by omega) hj] at h1
      rw [nI_leI hj hb] at h2
      exact ⟨j, h1, h2, Or.inr (Or.inr ⟨nI_le h1 hj, nI_le h2 hb, rfl⟩)⟩
    · exact ⟨b, hab, Nat.le_refl _, Or.inr (Or.inl ⟨h1, h2, rfl⟩)⟩
  · exact ⟨a, Nat.le_refl _, hab, Or.inl ⟨h1, rfl⟩⟩
theorem tr_xcl {post : Int32 → Prop} {x : Int32} {a b n : Nat} (h : (¬ nI a ≤ x ∧ n = a) ∨ (nI a ≤ x ∧ ¬ x ≤ nI b ∧ n = b) ∨ (nI a ≤ x ∧ x ≤ nI b ∧ x = nI n)) (hp : post (nI n)) : wpX_clamp post x (nI a) (nI b) := by
  rcases h with ⟨h1, rfl⟩ | ⟨h1, h2, rfl⟩ | ⟨h1, h2, e⟩
  · exact br_f h1 hp
  · exact br_t h1 (br_f h2 hp)
  · refine br_t h1 (br_t h2 ?_)
    rw [e]; exact hp
theorem tr_y84 {post : SY → Prop} {x z0 : Int32} {n : Nat} (h : (¬ nI 8 ≤ x ∧ n = 8) ∨ (nI 8 ≤ x ∧ ¬ x ≤ nI 64 ∧ n = 64) ∨ (nI 8 ≤ x ∧ x ≤ nI 64 ∧ x = nI n)) (hp : post (z0, nI n, yc, yd, ye, yf, yg, yh, yi, pa, pb, pc, pd, pe, pf, pg)) : wY_init_84 post x z0 ya yb yc yd ye yf yg yh yi pa pb pc pd pe pf pg := by
  rcases h with ⟨h1, rfl⟩ | ⟨h1, h2, rfl⟩ | ⟨h1, h2, e⟩
  · exact br_f h1 hp
  · exact br_t h1 (br_f h2 hp)
  · refine br_t h1 (br_t h2 ?_)
    rw [e]; exact hp
theorem i_vc0 (k0 : Int32) (k1 : Int32) : wpX_init (fun u => wpY_init (fun v => i_Rel 2 u v) k0 k1) k0 k1 := by
  obtain ⟨RL, a1, a2, a3⟩ := tr_clamp k0 1 12 (by decide) (by decide)
  obtain ⟨TL, b1, b2, b3⟩ := tr_clamp k1 8 64 (by decide) (by decide)
  unfold wpX_init
  refine tr_xcl (a := 1) (b := 12) a3 ?_
  refine tr_xcl (a := 8) (b := 64) b3 ?_
  unfold wpY_init
  rcases a3 with ⟨h1, rfl⟩ | ⟨h1, h2, rfl⟩ | ⟨h1, h2, e⟩
  · exact br_f h1 (tr_y84 b3 (tr_mk (R := fun _ => (0, 0, 0, fun _ => 0)) (T := fun _ => 0) (tr_inv0 a1 a2 b1 b2)))
  · exact br_t h1 (br_f h2 (tr_y84 b3 (tr_mk (R := fun _ => (0, 0, 0, fun _ => 0)) (T := fun _ => 0) (tr_inv0 a1 a2 b1 b2))))
  · refine br_t h1 (br_t h2 (tr_y84 b3 ?_))
    rw [e]
    exact tr_mk (R := fun _ => (0, 0, 0, fun _ => 0)) (T := fun _ => 0) (tr_inv0 a1 a2 b1 b2)
/-! the readers' bundles out of the relation -/
section
variable {k RL TL rc s md : Nat} {R : Nat → TrD} {T : Nat → Nat}
theorem tr_ixt (h : tr_inv RL TL rc s md R T xg xh xi yg yh yi qa qb qc qd qe qf pa pb pc pd pe pf) : tr_tm qe T s ∧ tr_tm pe T s :=
  ⟨⟨by have := h.1; omega, h.2.2.1.1, h.2.2.1.2.2⟩, ⟨by have := h.1; omega, h.2.2.1.2.1, h.2.2.1.2.2⟩⟩
theorem tr_ixr (h : tr_inv RL TL rc s md R T xg xh xi yg yh yi qa qb qc qd qe qf pa pb pc pd pe pf) : tr_rl qa qb R rc ∧ tr_rl pa pb R rc :=
  ⟨⟨by have := h.1; omega, fun q hq => ⟨(h.2.1 q hq).1, (h.2.1 q hq).2.1.1, (h.2.1 q hq).2.1.2.2.2⟩⟩, ⟨by have := h.1; omega, fun q hq => ⟨(h.2.1 q hq).1, (h.2.1 q hq).2.2.1, (h.2.1 q hq).2.2.2.2.2⟩⟩⟩
end
end TRG
end
section
section TRH
variable {xa xb xc xd xe xf xg xh xi ya yb yc yd ye yf yg yh yi : Int32} {qa qb qc qd qe qf qg qh qi pa pb pc pd pe pf pg : Nat → Int32}
/-! the small methods -/
theorem i_vc_mode {k : Nat} {u : SX} {v : SY} (I : i_Rel k u v) (hk : k + 3 ≤ 1538) : wpX_mode (fun r => wpY_mode (fun r' => r' = r ∧ i_Rel (k + 3) u v) v) u := by
  have J := i_up I
  obtain ⟨RL, TL, rc, s, md, R, T, sc, xg, xh, xi, yg, yh, yi, qa, qb, qc, qd, qe, qf, qg, qh, qi, pa, pb, pc, pd, pe, pf, pg, rfl, rfl, h⟩ := I
  exact ⟨rfl, J⟩
theorem i_vc_rules {k : Nat} {u : SX} {v : SY} (I : i_Rel k u v) (hk : k + 3 ≤ 1538) : wpX_rules (fun r => wpY_rules (fun r' => r' = r ∧ i_Rel (k + 3) u v) v) u := by
  have J := i_up I
  obtain ⟨RL, TL, rc, s, md, R, T, sc, xg, xh, xi, yg, yh, yi, qa, qb, qc, qd, qe, qf, qg, qh, qi, pa, pb, pc, pd, pe, pf, pg, rfl, rfl, h⟩ := I
  exact ⟨rfl, J⟩
theorem i_vc_size {k : Nat} {u : SX} {v : SY} (I : i_Rel k u v) (hk : k + 3 ≤ 1538) : wpX_size (fun r => wpY_size (fun r' => r' = r ∧ i_Rel (k + 3) u v) v) u := by
  have J := i_up I
  obtain ⟨RL, TL, rc, s, md, R, T, sc, xg, xh, xi, yg, yh, yi, qa, qb, qc, qd, qe, qf, qg, qh, qi, pa, pb, pc, pd, pe, pf, pg, rfl, rfl, h⟩ := I
  exact ⟨rfl, J⟩
theorem i_vc_steps {k : Nat} {u : SX} {v : SY} (I : i_Rel k u v) (hk : k + 3 ≤ 1538) : wpX_steps (fun r => wpY_steps (fun r' => r' = r ∧ i_Rel (k + 3) u v) v) u := by
  have J := i_up I
  obtain ⟨RL, TL, rc, s, md, R, T, sc, xg, xh, xi, yg, yh, yi, qa, qb, qc, qd, qe, qf, qg, qh, qi, pa, pb, pc, pd, pe, pf, pg, rfl, rfl, h⟩ := I
  exact ⟨rfl, J⟩
theorem tr_ge0 {x : Int32} {n : Nat} (hn : n < 2 ^ 31) (h : nI n ≤ x) : ¬ x < 0 := Int32.not_lt.mpr (Int32.le_trans (nI_pos' hn) h)
theorem i_vc_symbolAt {k : Nat} {u : SX} {v : SY} (I : i_Rel k u v) (hk : k + 3 ≤ 1538) (v1 : Int32) : wpX_symbolAt (fun r => wpY_symbolAt (fun r' => r' = r ∧ i_Rel (k + 3) u v) v v1) u v1 := by
  have J := i_up I
  obtain ⟨RL, TL, rc, s, md, R, T, sc, xg, xh, xi, yg, yh, yi, qa, qb, qc, qd, qe, qf, qg, qh, qi, pa, pb, pc, pd, pe, pf, pg, rfl, rfl, h⟩ := I
  have hb := h.1
  rcases pk_ix v1 (n := s) (by omega) with z | z | ⟨j, hj, rfl⟩
  · exact br_t z (br_t z ⟨rfl, J⟩)
  · have z0 := tr_ge0 (by omega) z
    exact br_f z0 (br_t z (br_f z0 (br_f (Int32.not_lt.mpr z) ⟨rfl, J⟩)))
  · have e : pe (nI j).toNatClampNeg = qe (nI j).toNatClampNeg := by rw [nI_clamp (by omega), h.2.2.1.1 j hj, h.2.2.1.2.1 j hj]
    have z0 := nI_pos (n := j) (by omega)
    exact br_f z0 (br_f (nI_ge hj (by omega)) ⟨vp_in_nI (by omega) (by decide), br_f z0 (br_t (nI_lt hj (by omega)) ⟨vp_in_nI (by omega) (by decide), e, J⟩)⟩)
theorem i_vc_used {k : Nat} {u : SX} {v : SY} (I : i_Rel k u v) (hk : k + 3 ≤ 1538) (v1 : Int32) : wpX_used (fun r => wpY_used (fun r' => r' = r ∧ i_Rel (k + 3) u v) v v1) u v1 := by
  have J := i_up I
  obtain ⟨RL, TL, rc, s, md, R, T, sc, xg, xh, xi, yg, yh, yi, qa, qb, qc, qd, qe, qf, qg, qh, qi, pa, pb, pc, pd, pe, pf, pg, rfl, rfl, h⟩ := I
  have hb := h.1
  rcases pk_ix v1 (n := rc) (by omega) with z | z | ⟨j, hj, rfl⟩
  · exact br_t z (br_t z ⟨rfl, J⟩)
  · have z0 := tr_ge0 (by omega) z
    exact br_f z0 (br_t z (br_f z0 (br_f (Int32.not_lt.mpr z) ⟨rfl, J⟩)))
  · have e : pd (nI j).toNatClampNeg = qd (nI j).toNatClampNeg := by rw [nI_clamp (by omega), (h.2.1 j hj).2.1.2.2.1, (h.2.1 j hj).2.2.2.2.1]
    have z0 := nI_pos (n := j) (by omega)
    exact br_f z0 (br_f (nI_ge hj (by omega)) ⟨vp_in_nI (by omega) (by decide), br_f z0 (br_t (nI_lt hj (by omega)) ⟨vp_in_nI (by omega) (by decide), e, J⟩)⟩)
theorem i_vc_ruleAt {k : Nat} {u : SX} {v : SY} (I : i_Rel k u v) (hk : k + 3 ≤ 1538) (v1 : Int32) : wpX_ruleAt (fun r => wpY_ruleAt (fun r' => r' = r ∧ i_Rel (k + 3) u v) v v1) u v1 := by
  have J := i_up I
  obtain ⟨RL, TL, rc, s, md, R, T, sc, xg, xh, xi, yg, yh, yi, qa, qb, qc, qd, qe, qf, qg, qh, qi, pa, pb, pc, pd, pe, pf, pg, rfl, rfl, h⟩ := I
  have hb := h.1
  have ht := tr_ixt h
  have hR := tr_ixr h
  rcases pk_ix v1 (n := s) (by omega) with z | z | ⟨j, hj, rfl⟩
  · exact br_t z (br_t z ⟨rfl, J⟩)
  · have z0 := tr_ge0 (by omega) z
    exact br_f z0 (br_f (Int32.not_lt.mpr z) (br_f z0 (br_f (Int32.not_lt.mpr z) ⟨rfl, J⟩)))
  · exact tr_xR ht.1 hR.1 hj (tr_yR ht.2 hR.2 hj ⟨rfl, J⟩)
theorem i_vc_nextRedex {k : Nat} {u : SX} {v : SY} (I : i_Rel k u v) (hk : k + 3 ≤ 1538) : wpX_nextRedex (fun r => wpY_nextRedex (fun r' => r' = r ∧ i_Rel (k + 3) u v) v) u := by
  have J := i_up I
  obtain ⟨RL, TL, rc, s, md, R, T, sc, xg, xh, xi, yg, yh, yi, qa, qb, qc, qd, qe, qf, qg, qh, qi, pa, pb, pc, pd, pe, pf, pg, rfl, rfl, h⟩ := I
  have ht := tr_ixt h
  have hR := tr_ixr h
  exact tr_xN ht.1 hR.1 (tr_yN ht.2 hR.2 ⟨rfl, J⟩)
theorem tr_i0 {RL TL rc s md : Nat} {R : Nat → TrD} {T : Nat → Nat} (h : tr_inv RL TL rc s md R T xg xh xi yg yh yi qa qb qc qd qe qf pa pb pc pd pe pf) {xg xh xi yg yh yi : Int32} {qf pf : Nat → Int32} : tr_inv RL TL rc s 0 R T xg xh xi yg yh yi qa qb qc qd qe qf pa pb pc pd pe pf :=
  ⟨by have := h.1; omega, h.2.1, h.2.2.1, Or.inl rfl⟩
theorem tr_i1 {RL TL rc s md : Nat} {R : Nat → TrD} {T : Nat → Nat} (h : tr_inv RL TL rc s md R T xg xh xi yg yh yi qa qb qc qd qe qf pa pb pc pd pe pf) (hr : rc ≠ RL) {yi : Int32} : tr_inv RL TL rc s 1 R T 0 0 1 0 1 yi qa qb qc qd qe qf pa pb pc pd pe pf :=
  ⟨by have := h.1; omega, h.2.1, h.2.2.1, Or.inr ⟨0, 1, 0, fun _ => 0, rfl, rfl, rfl, rfl, rfl, Nat.le_refl _, fun j z => absurd z (Nat.not_lt_zero _), fun j z => absurd z (Nat.not_lt_zero _), Or.inr (by have := h.1; omega), Or.inl ⟨rfl, rfl, by decide, fun j z => absurd z (Nat.not_lt_zero _), fun j k z => absurd z (Nat.not_lt_zero _)⟩⟩⟩
theorem tr_i3 {RL TL rc s md : Nat} {R : Nat → TrD} {T : Nat → Nat} (h : tr_inv RL TL rc s md R T xg xh xi yg yh yi qa qb qc qd qe qf pa pb pc pd pe pf) {yi : Int32} : tr_inv RL TL rc s 3 R T 0 0 1 0 1 yi qa qb qc qd qe qf pa pb pc pd pe pf :=
  ⟨by have := h.1; omega, h.2.1, h.2.2.1, Or.inr ⟨0, 1, 0, fun _ => 0, rfl, rfl, rfl, rfl, rfl, Nat.le_refl _, fun j z => absurd z (Nat.not_lt_zero _), fun j z => absurd z (Nat.not_lt_zero _), Or.inl rfl, Or.inr (Or.inr ⟨rfl, rfl, by have := h.1; omega, fun j z => absurd z (Nat.not_lt_zero _)⟩)⟩⟩
theorem i_vc_beginRule {k : Nat} {u : SX} {v : SY} (I : i_Rel k u v) (hk : k + 3 ≤ 1538) : wpX_beginRule (fun r u' => wpY_beginRule (fun r' v' => r' = r ∧ i_Rel (k + 3) u' v') v) u := by
  have J := i_up I
  obtain ⟨RL, TL, rc, s, md, R, T, sc, xg, xh, xi, yg, yh, yi, qa, qb, qc, qd, qe, qf, qg, qh, qi, pa, pb, pc, pd, pe, pf, pg, rfl, rfl, h⟩ := I
  have hb := h.1
  unfold wpX_beginRule wpX_openEntry
  refine pk_eq md 0 (fun h0 => pk_eq rc RL (fun h1 => ?_) (fun h1 => ?_)) (fun h0 => ?_)
  · exact pk_eq md 0 (fun _ => pk_eq rc RL (fun _ => ⟨rfl, J⟩) (fun z => absurd h1 z)) (fun z => absurd h0 z)
  · refine pk_eq md 0 (fun _ => pk_eq rc RL (fun z => absurd z h1) (fun _ => ?_)) (fun z => absurd h0 z)
    exact ⟨rfl, tr_mk (md := 1) (tr_i1 h h1)⟩
  · exact pk_eq md 0 (fun z => absurd z h0) (fun _ => ⟨rfl, J⟩)
theorem i_vc_beginTerm {k : Nat} {u : SX} {v : SY} (I : i_Rel k u v) (hk : k + 3 ≤ 1538) : wpX_beginTerm (fun r u' => wpY_beginTerm (fun r' v' => r' = r ∧ i_Rel (k + 3) u' v') v) u := by
  have J := i_up I
  obtain ⟨RL, TL, rc, s, md, R, T, sc, xg, xh, xi, yg, yh, yi, qa, qb, qc, qd, qe, qf, qg, qh, qi, pa, pb, pc, pd, pe, pf, pg, rfl, rfl, h⟩ := I
  have hb := h.1
  unfold wpX_beginTerm wpX_openEntry
  refine pk_eq md 0 (fun h0 => ?_) (fun h0 => ?_)
  · refine pk_eq md 0 (fun _ => ?_) (fun z => absurd h0 z)
    exact ⟨rfl, tr_mk (md := 3) (tr_i3 h)⟩
  · exact pk_eq md 0 (fun z => absurd z h0) (fun _ => ⟨rfl, J⟩)
theorem i_vc_cancel {k : Nat} {u : SX} {v : SY} (I : i_Rel k u v) (hk : k + 3 ≤ 1538) : wpX_cancel (fun r u' => wpY_cancel (fun r' v' => r' = r ∧ i_Rel (k + 3) u' v') v) u := by
  have J := i_up I
  obtain ⟨RL, TL, rc, s, md, R, T, sc, xg, xh, xi, yg, yh, yi, qa, qb, qc, qd, qe, qf, qg, qh, qi, pa, pb, pc, pd, pe, pf, pg, rfl, rfl, h⟩ := I
  have hb := h.1
  refine pk_eq md 0 (fun h0 => ?_) (fun h0 => ?_)
  · exact pk_eq md 0 (fun _ => ⟨rfl, J⟩) (fun z => absurd h0 z)
  · exact pk_eq md 0 (fun z => absurd z h0) (fun _ => ⟨rfl, tr_mk (md := 0) (tr_i0 h)⟩)
theorem tr_m1 {x : Int32} (h1 : ¬ x < -1) (h2 : x < 0) : x = -1 := by
  rw [Int32.lt_iff_toInt_lt] at h1 h2
  rw [show (-1 : Int32).toInt = -1 from by decide] at h1
  rw [show (0 : Int32).toInt = 0 from by decide] at h2
  refine Int32.toInt_inj.mp ?_
  rw [show (-1 : Int32).toInt = -1 from by decide]
  omega
theorem tr_m1g {n : Nat} (h : n < 2 ^ 31) : ¬ nI n < -1 := fun z => nI_pos h (Int32.lt_trans z (by decide))
theorem tr_m1h {n : Nat} (h : n < 2 ^ 31) : ¬ nI n ≤ -1 := fun z => absurd (Int32.le_trans (nI_pos' h) z) (by decide)
theorem tr_y75 {post : Int32 → Prop} {c p : Nat} {en : Nat → Nat} (hc : c ≤ 64) (hf : tr_la pf en c) (h1 : p < c → post (nI (en p))) (h0 : c ≤ p → post (-1)) (hp : p < 2 ^ 31) : wY_cell_75 post (-1) (nI p) (nI c) ya yb yc yd ye yf yg yh yi pa pb pc pd pe pf pg :=
  pk_lt p c (fun h => br_t (by decide) ⟨vp_in_nI (by omega) (by decide), by rw [nI_clamp hp, hf p h]; exact h1 h⟩) h0
theorem tr_cell {RL TL rc s md : Nat} {R : Nat → TrD} {T : Nat → Nat} {sc : Int32} (h : tr_inv RL TL rc s md R T xg xh xi yg yh yi qa qb qc qd qe qf pa pb pc pd pe pf) (v1 v2 : Int32) : ∃ a : Int32,
    (∀ post : Int32 → Prop, post a → wpX_cell post (nI RL, nI TL, nI rc, nI s, sc, nI md, xg, xh, xi, qa, qb, qc, qd, qe, qf, qg, qh, qi) v1 v2) ∧ (∀ post : Int32 → Prop, post a → wpY_cell post (nI RL, nI TL, nI rc, nI s, sc, nI md, yg, yh, yi, pa, pb, pc, pd, pe, pf, pg) v1 v2) := by
  have hb := h.1
  by_cases hA : v1 < -1
  · exact ⟨-1, fun post hp => br_t hA hp, fun post hp => br_t hA hp⟩
  rcases pk_ix v1 (n := rc) (by omega) with z | z | ⟨r, hr, rfl⟩
  · have e := tr_m1 hA z
    subst e
    have hB : ¬ nI rc ≤ -1 := tr_m1h (by omega)
    by_cases h0 : md = 0
    · subst h0
      by_cases h2 : 0 ≤ v2
      · exact ⟨-1, fun post hp => br_f hA (br_f hB (br_t h2 (br_t z (br_t rfl hp)))), fun post hp => br_f hA (br_f hB (br_t rfl (br_t rfl hp)))⟩
      · exact ⟨-1, fun post hp => br_f hA (br_f hB (br_f h2 hp)), fun post hp => br_f hA (br_f hB (br_t rfl (br_t rfl hp)))⟩
    · have h0' := nI_ne0 (n := md) (by omega) (by omega)
      by_cases h2 : 0 ≤ v2
      · obtain ⟨p, hp2, rfl⟩ := nI_of (x := v2) (Int32.not_lt.mpr h2)
        rcases h.2.2.2 with w | ⟨n, m, el, en, rfl, rfl, rfl, rfl, rfl, hm, hq, hf, -, he⟩
        · exact absurd w h0
        · have hbd : el + n ≤ 64 ∧ (md = 2 → yi = nI el) ∧ (¬ md = 2 → el = 0) := by
            rcases he with ⟨e1, e2, e3, -⟩ | ⟨e1, e2, e3, e4, -⟩ | ⟨e1, e2, e3, -⟩
            · exact ⟨by omega, fun z => by omega, fun _ => e2⟩
            · exact ⟨by omega, fun _ => e2, fun z => by omega⟩
            · exact ⟨by omega, fun z => by omega, fun _ => e2⟩
          have hY : ∀ post : Int32 → Prop, (p < el + n → post (nI (en p))) → (el + n ≤ p → post (-1)) → wpY_cell post (nI RL, nI TL, nI rc, nI s, sc, nI md, nI n, nI m, yi, pa, pb, pc, pd, pe, pf, pg) (-1) (nI p) := by
            intro post k1 k0
            refine br_f hA (br_f hB (br_t rfl (br_f h0' (br_t h2 (br_t z (pk_eq md 2 (fun w => ?_) (fun w => ?_)))))))
            · rw [hbd.2.1 w, nI_add]
              exact tr_y75 hbd.1 hf k1 k0 hp2
            · have e := hbd.2.2 w
              rw [e, Nat.zero_add] at hf k1 k0
              exact tr_y75 (by omega) hf k1 k0 hp2
          have hX : ∀ post : Int32 → Prop, (p < el + n → post (nI (en p))) → (el + n ≤ p → post (-1)) → wpX_cell post (nI RL, nI TL, nI rc, nI s, sc, nI md, nI (el + n), nI el, nI m, qa, qb, qc, qd, qe, qf, qg, qh, qi) (-1) (nI p) := by
            intro post k1 k0
            exact br_f hA (br_f hB (br_t h2 (br_t z (br_f h0' (pk_le (el + n) p k0 (fun w => ⟨vp_in_nI (by omega) (by decide), by rw [nI_clamp hp2, hq p w]; exact k1 w⟩))))))
          by_cases w : p < el + n
          · exact ⟨nI (en p), fun post hp => hX post (fun _ => hp) (fun q => absurd w (by omega)), fun post hp => hY post (fun _ => hp) (fun q => absurd w (by omega))⟩
          · exact ⟨-1, fun post hp => hX post (fun q => absurd q w) (fun _ => hp), fun post hp => hY post (fun q => absurd q w) (fun _ => hp)⟩
      · exact ⟨-1, fun post hp => br_f hA (br_f hB (br_f h2 hp)), fun post hp => br_f hA (br_f hB (br_t rfl (br_f h0' (br_f h2 hp))))⟩
  · exact ⟨-1, fun post hp => br_f hA (br_t z hp), fun post hp => br_f hA (br_t z hp)⟩
  · have hB : ¬ nI rc ≤ nI r := nI_ge hr (by omega)
    have hn : ¬ nI r < 0 := nI_pos (by omega)
    have h1 : ¬ nI r = -1 := tr_n1 (by omega)
    obtain ⟨ok, x4, y4⟩ := h.2.1 r hr
    by_cases h2 : 0 ≤ v2
    · obtain ⟨p, hp2, rfl⟩ := nI_of (x := v2) (Int32.not_lt.mpr h2)
      have o1 := ok.1
      have o2 := ok.2.1
      have eX : qc (nI r).toNatClampNeg = nI ((R r).1 + (R r).2.1) := by rw [nI_clamp (by omega)]; exact x4.2.1
      have eY : pb (nI r).toNatClampNeg + pc (nI r).toNatClampNeg = nI ((R r).1 + (R r).2.1) := by rw [nI_clamp (by omega), y4.1, y4.2.1, nI_add]
      by_cases w : p < (R r).1 + (R r).2.1
      · refine ⟨nI ((R r).2.2.2 p), fun post hp => br_f hA (br_f hB (br_t h2 (br_f hn ⟨vp_in_nI (by omega) (by decide), ?_⟩))), fun post hp => br_f hA (br_f hB (br_f h1 (br_t h2 (br_f hn ⟨vp_in_nI (by omega) (by decide), vp_in_nI (by omega) (by decide), ?_⟩))))⟩
        · rw [eX]
          refine pk_le ((R r).1 + (R r).2.1) p (fun q => absurd w (by omega)) (fun _ => ⟨by rw [tr_28]; exact vp_in_nI (by omega) (by decide), ?_⟩)
          rw [tr_28, nI_clamp (by omega), x4.2.2.2 p w]
          exact hp
        · rw [eY]
          refine pk_lt p ((R r).1 + (R r).2.1) (fun _ => br_f hn ⟨by rw [tr_28]; exact vp_in_nI (by omega) (by decide), ?_⟩) (fun q => absurd w (by omega))
          rw [tr_28, nI_clamp (by omega), y4.2.2.2 p w]
          exact hp
      · refine ⟨-1, fun post hp => br_f hA (br_f hB (br_t h2 (br_f hn ⟨vp_in_nI (by omega) (by decide), ?_⟩))), fun post hp => br_f hA (br_f hB (br_f h1 (br_t h2 (br_f hn ⟨vp_in_nI (by omega) (by decide), vp_in_nI (by omega) (by decide), ?_⟩))))⟩
        · rw [eX]
          exact pk_le ((R r).1 + (R r).2.1) p (fun _ => hp) (fun q => absurd q w)
        · rw [eY]
          exact pk_lt p ((R r).1 + (R r).2.1) (fun q => absurd q w) (fun _ => hp)
    · exact ⟨-1, fun post hp => br_f hA (br_f hB (br_f h2 hp)), fun post hp => br_f hA (br_f hB (br_f h1 (br_f h2 hp)))⟩
theorem i_vc_cell {k : Nat} {u : SX} {v : SY} (I : i_Rel k u v) (hk : k + 3 ≤ 1538) (v1 : Int32) (v2 : Int32) : wpX_cell (fun r => wpY_cell (fun r' => r' = r ∧ i_Rel (k + 3) u v) v v1 v2) u v1 v2 := by
  have J := i_up I
  obtain ⟨RL, TL, rc, s, md, R, T, sc, xg, xh, xi, yg, yh, yi, qa, qb, qc, qd, qe, qf, qg, qh, qi, pa, pb, pc, pd, pe, pf, pg, rfl, rfl, h⟩ := I
  obtain ⟨a, hX, hY⟩ := tr_cell (qg := qg) (qh := qh) (qi := qi) (pg := pg) (sc := sc) h v1 v2
  exact hX _ (hY _ ⟨rfl, J⟩)
end TRH
end
section
section TRI
variable {xa xb xc xd xe xf xg xh xi ya yb yc yd ye yf yg yh yi : Int32} {qa qb qc qd qe qf qg qh qi pa pb pc pd pe pf pg : Nat → Int32}
/-! run: in lockstep; the reference carried as 'whatever it asks from here on, of every state that looks so, it asks at the start' -/
def tr_gx (R : Nat → TrD) (rc : Nat) (T : Nat → Nat) (s : Nat) (qa qb qc qd qe : Nat → Int32) : Prop := (∀ q, q < rc → tr_ok (R q) ∧ tr_xr qa qb qc qd q (R q)) ∧ tr_tm qe T s
def tr_gy (R : Nat → TrD) (rc : Nat) (T : Nat → Nat) (s : Nat) (pa pb pc pd pe : Nat → Int32) : Prop := (∀ q, q < rc → tr_ok (R q) ∧ tr_yr pa pb pc pd q (R q)) ∧ tr_tm pe T s
theorem tr_gi {RL TL rc s : Nat} {R : Nat → TrD} {T : Nat → Nat} (h1 : 1 ≤ RL) (h2 : RL ≤ 12) (h3 : 8 ≤ TL) (h4 : TL ≤ 64) (h5 : rc ≤ RL) (h6 : s ≤ TL) (gx : tr_gx R rc T s qa qb qc qd qe) (gy : tr_gy R rc T s pa pb pc pd pe) : tr_inv RL TL rc s 0 R T xg xh xi yg yh yi qa qb qc qd qe qf pa pb pc pd pe pf :=
  ⟨by omega, fun q hq => ⟨(gx.1 q hq).1, (gx.1 q hq).2, (gy.1 q hq).2⟩, ⟨gx.2.2.1, gy.2.2.1, gx.2.2.2⟩, Or.inl rfl⟩
theorem tr_gxl {rc s : Nat} {R : Nat → TrD} {T : Nat → Nat} (hrc : rc ≤ 12) (g : tr_gx R rc T s qa qb qc qd qe) : tr_rl qa qb R rc := ⟨hrc, fun q hq => ⟨(g.1 q hq).1, (g.1 q hq).2.1, (g.1 q hq).2.2.2.2⟩⟩
theorem tr_gyl {rc s : Nat} {R : Nat → TrD} {T : Nat → Nat} (hrc : rc ≤ 12) (g : tr_gy R rc T s pa pb pc pd pe) : tr_rl pa pb R rc := ⟨hrc, fun q hq => ⟨(g.1 q hq).1, (g.1 q hq).2.1, (g.1 q hq).2.2.2.2⟩⟩
/-- the rules after a step with r -/
def tr_R1 (R : Nat → TrD) (r : Nat) : Nat → TrD := fun q => if q = r then ((R r).1, (R r).2.1, (R r).2.2.1 + 1, (R r).2.2.2) else R q
theorem tr_R1_e {R : Nat → TrD} {r : Nat} : tr_R1 R r r = ((R r).1, (R r).2.1, (R r).2.2.1 + 1, (R r).2.2.2) := if_pos rfl
theorem tr_R1_n {R : Nat → TrD} {r q : Nat} (h : q ≠ r) : tr_R1 R r q = R q := if_neg h
theorem tr_gx1 {rc s r : Nat} {R : Nat → TrD} {T : Nat → Nat} {L : List Nat} (g : tr_gx R rc T s qa qb qc qd qe) (hL : L.length ≤ 64) (h16 : tr_16 L) {qe2 : Nat → Int32} (hh : tr_hl qe2 L) :
    tr_gx (tr_R1 R r) rc (fun q => L.getD q 0) L.length qa qb qc (upd qd r (qd r + 1)) qe2 := by
  refine ⟨fun q hq => ?_, hL, hh, fun j hj => tr_16_get h16 hj⟩
  obtain ⟨ok, a, b, c, d⟩ := g.1 q hq
  by_cases e : q = r
  · subst e
    rw [tr_R1_e]
    exact ⟨ok, a, b, by rw [pk_us, c], d⟩
  · rw [tr_R1_n e]
    exact ⟨ok, a, b, by rw [pk_un e]; exact c, d⟩
theorem tr_gy1 {rc s r : Nat} {R : Nat → TrD} {T : Nat → Nat} {L : List Nat} (g : tr_gy R rc T s pa pb pc pd pe) (hL : L.length ≤ 64) (h16 : tr_16 L) {pe2 : Nat → Int32} (hh : tr_hl pe2 L) :
    tr_gy (tr_R1 R r) rc (fun q => L.getD q 0) L.length pa pb pc (upd pd r (pd r + 1)) pe2 := by
  refine ⟨fun q hq => ?_, hL, hh, fun j hj => tr_16_get h16 hj⟩
  obtain ⟨ok, a, b, c, d⟩ := g.1 q hq
  by_cases e : q = r
  · subst e
    rw [tr_R1_e]
    exact ⟨ok, a, b, by rw [pk_us, c], d⟩
  · rw [tr_R1_n e]
    exact ⟨ok, a, b, by rw [pk_un e]; exact c, d⟩
theorem tr_run {k RL TL rc max : Nat} {Yp : Int32 → SX → Prop} (h1 : 1 ≤ RL) (h2 : RL ≤ 12) (h3 : 8 ≤ TL) (h4 : TL ≤ 64) (h5 : rc ≤ RL) (hm : max ≤ 64) : ∀ (d kk s : Nat) (R : Nat → TrD) (T : Nat → Nat) (sc : Int32), kk + d = max → s ≤ TL →
    (∀ (r : Int32) (u' : SX), (∀ pd pe pg, tr_gy R rc T s pa pb pc pd pe → ∀ n, d + 1 ≤ n → wY_run_41 (fun r' v' => r' = r ∧ i_Rel k u' v') (nI max) n (nI kk) (nI RL) (nI TL) (nI rc) (nI s) sc (nI 0) yg yh yi pa pb pc pd pe pf pg) → Yp r u') →
    ∀ qd qe qg qh qi, tr_gx R rc T s qa qb qc qd qe → ∀ n, d + 1 ≤ n → wX_run_28 Yp (nI max) n (nI kk) (nI RL) (nI TL) (nI rc) (nI s) sc (nI 0) xg xh xi qa qb qc qd qe qf qg qh qi := by
  intro d
  induction d with
  | zero =>
    intro kk s R T sc hd hs C qd qe qg qh qi gx n hn
    obtain ⟨m, rfl⟩ : ∃ m, n = m + 1 := ⟨n - 1, by omega⟩
    have hle : nI max ≤ nI kk := nI_le (by omega) (by omega)
    have hR := tr_gxl (by omega) gx
    refine br_t hle (tr_xN gx.2 hR ?_)
    cases hnx : tr_nx R rc T s with
    | none =>
      rw [tr_oi_n]
      refine br_f (show ¬ (0 : Int32) ≤ -1 by decide) (C _ _ fun pd pe pg gy n hn => ?_)
      obtain ⟨m, rfl⟩ : ∃ m, n = m + 1 := ⟨n - 1, by omega⟩
      refine br_t hle (tr_yN gy.2 (tr_gyl (by omega) gy) ?_)
      rw [hnx, tr_oi_n]
      exact br_f (show ¬ (0 : Int32) ≤ -1 by decide) ⟨rfl, tr_mk (md := 0) (tr_gi h1 h2 h3 h4 h5 hs gx gy)⟩
    | some i =>
      have hi := tr_fr_some _ _ hnx
      have hs64 := gx.2.1
      have h0 : (0 : Int32) ≤ nI i := nI_pos' (by omega)
      rw [tr_oi_s]
      refine br_t h0 (C _ _ fun pd pe pg gy n hn => ?_)
      obtain ⟨m, rfl⟩ : ∃ m, n = m + 1 := ⟨n - 1, by omega⟩
      refine br_t hle (tr_yN gy.2 (tr_gyl (by omega) gy) ?_)
      rw [hnx, tr_oi_s]
      exact br_t h0 ⟨rfl, tr_mk (md := 0) (tr_gi h1 h2 h3 h4 h5 hs gx gy)⟩
  | succ d ih =>
    intro kk s R T sc hd hs C qd qe qg qh qi gx n hn
    obtain ⟨m, rfl⟩ : ∃ m, n = m + 1 := ⟨n - 1, by omega⟩
    have hlt : ¬ nI max ≤ nI kk := nI_ge (by omega) (by omega)
    have hR := tr_gxl (by omega) gx
    have hs64 := gx.2.1
    refine br_f hlt (tr_xN gx.2 hR ?_)
    cases hnx : tr_nx R rc T s with
    | none =>
      rw [tr_oi_n]
      refine br_f (show ¬ (0 : Int32) ≤ -1 by decide) (C _ _ fun pd pe pg gy n hn => ?_)
      obtain ⟨m, rfl⟩ : ∃ m, n = m + 1 := ⟨n - 1, by omega⟩
      refine br_f hlt (tr_yN gy.2 (tr_gyl (by omega) gy) ?_)
      rw [hnx, tr_oi_n]
      exact br_f (show ¬ (0 : Int32) ≤ -1 by decide) ⟨rfl, tr_mk (md := 0) (tr_gi h1 h2 h3 h4 h5 hs gx gy)⟩
    | some i =>
      obtain ⟨-, hi, hin, -⟩ := tr_fr_some _ _ hnx
      rw [Nat.zero_add] at hi
      have h0 : (0 : Int32) ≤ nI i := nI_pos' (by omega)
      obtain ⟨r, hra⟩ : ∃ r, tr_ra R rc T s i = some r := by
        cases hx : tr_ra R rc T s i with
        | none => exact absurd hx hin.1
        | some r => exact ⟨r, rfl⟩
      have hr := tr_ra_lt hra
      have ok := (gx.1 r hr).1
      have hap := (tr_fr_some _ _ hra).2.2.1
      obtain ⟨B, hB⟩ := tr_B (T := T) (s := s) (i := i) ok.2.2.2.1 (R r).1 (Nat.le_refl _)
      have h16 : tr_16 (tr_L T (R r).2.2.2 B s i (R r).1 (R r).2.1) := by
        have hE := tr_E_le T (show i ≤ s by omega)
        refine tr_16_a (tr_16_a (tr_16_sg gx.2.2.2 _ (by omega)) (tr_ct_16 (rl := (R r).2.1) gx.2.2.2 (fun k hk h16 => ?_) _ (Nat.le_refl _))) (tr_16_sg gx.2.2.2 _ (by omega))
        obtain ⟨j, hj, e⟩ := ok.2.2.2.2 ((R r).1 + k) (by omega) (by omega) h16
        rw [← e] at h16 ⊢
        rw [hB j hj h16]
        exact (hap j hj).1
      rw [tr_oi_s]
      refine br_t h0 (tr_xW gx.2 h4 hR (fun q hq => (gx.1 q hq).2.2.1) hi hra hB (fun hle qe2 qg2 qh2 qi2 hh => br_f (by decide) (nm_r (nI_1 kk) ?_)) (fun hgt qh2 qi2 => br_t rfl (C _ _ fun pd pe pg gy n hn => ?_)))
      · refine ih (kk + 1) _ (tr_R1 R r) (fun q => (tr_L T (R r).2.2.2 B s i (R r).1 (R r).2.1).getD q 0) (sc + 1) (by omega) hle (fun r' u' H => C r' u' fun pd pe pg gy n hn => ?_) _ _ _ _ _ (tr_gx1 gx (by omega) h16 hh) m (by omega)
        obtain ⟨m, rfl⟩ : ∃ m, n = m + 1 := ⟨n - 1, by omega⟩
        refine br_f hlt (tr_yN gy.2 (tr_gyl (by omega) gy) ?_)
        rw [hnx, tr_oi_s]
        refine br_t h0 (tr_yR gy.2 (tr_gyl (by omega) gy) hi ?_)
        rw [hra, tr_oi_s]
        refine tr_yX gy.2 h4 (tr_gyl (by omega) gy) (fun q hq => (gy.1 q hq).2.2.1) hi hra hB (fun _ pe2 pg2 hh2 => br_f (by decide) (nm_e ⟨vp_in_nI (by omega) (by decide), vp_in_nI (by omega) (by decide), ?_⟩)) (fun z => absurd hle (by omega))
        rw [nI_clamp (show r < 2 ^ 31 by omega)]
        exact nm_e (nm_r (nI_1 kk) (H _ _ _ (tr_gy1 gy (by omega) h16 hh2) m (by omega)))
      · obtain ⟨m, rfl⟩ : ∃ m, n = m + 1 := ⟨n - 1, by omega⟩
        refine br_f hlt (tr_yN gy.2 (tr_gyl (by omega) gy) ?_)
        rw [hnx, tr_oi_s]
        refine br_t h0 (tr_yR gy.2 (tr_gyl (by omega) gy) hi ?_)
        rw [hra, tr_oi_s]
        exact tr_yX gy.2 h4 (tr_gyl (by omega) gy) (fun q hq => (gy.1 q hq).2.2.1) hi hra hB (fun z => absurd hgt (by omega)) (fun _ pg2 => br_t rfl ⟨rfl, tr_mk (md := 0) (tr_gi h1 h2 h3 h4 h5 hs gx gy)⟩)
theorem i_vc_run {k : Nat} {u : SX} {v : SY} (I : i_Rel k u v) (hk : k + 3 ≤ 1538) (v1 : Int32) : wpX_run (fun r u' => wpY_run (fun r' v' => r' = r ∧ i_Rel (k + 3) u' v') v v1) u v1 := by
  have J := i_up I
  obtain ⟨RL, TL, rc, s, md, R, T, sc, xg, xh, xi, yg, yh, yi, qa, qb, qc, qd, qe, qf, qg, qh, qi, pa, pb, pc, pd, pe, pf, pg, rfl, rfl, h⟩ := I
  obtain ⟨b1, b2, b3, b4, b5, b6, b7⟩ := h.1
  refine pk_eq md 0 (fun h0 => pk_eq s 0 (fun h1 => ?_) (fun h1 => ?_)) (fun h0 => ?_)
  · exact pk_eq md 0 (fun _ => pk_eq s 0 (fun _ => ⟨rfl, J⟩) (fun z => absurd h1 z)) (fun z => absurd h0 z)
  · subst h0
    have gx : tr_gx R rc T s qa qb qc qd qe := ⟨fun q hq => ⟨(h.2.1 q hq).1, (h.2.1 q hq).2.1⟩, (tr_ixt h).1⟩
    have gy : tr_gy R rc T s pa pb pc pd pe := ⟨fun q hq => ⟨(h.2.1 q hq).1, (h.2.1 q hq).2.2⟩, (tr_ixt h).2⟩
    obtain ⟨mx, m1, m2, m3⟩ := tr_clamp v1 0 64 (by decide) (by decide)
    refine tr_xcl (a := 0) (b := 64) m3 ⟨mx + 1, tr_run (k := k + 3) (yg := yg) (yh := yh) (yi := yi) (pa := pa) (pb := pb) (pc := pc) (pf := pf) b1 b2 b3 b4 b5 m2 mx 0 s R T sc (by omega) b6 (fun r u' H => ?_) qd qe qg qh qi gx (mx + 1) (Nat.le_refl _)⟩
    refine pk_eq 0 0 (fun _ => pk_eq s 0 (fun z => absurd z h1) (fun _ => ?_)) (fun z => absurd rfl z)
    have H2 := H pd pe pg gy (mx + 1) (Nat.le_refl _)
    rcases m3 with ⟨a, rfl⟩ | ⟨a, b, rfl⟩ | ⟨a, b, e⟩
    · exact br_f a ⟨_, H2⟩
    · exact br_t a (br_f b ⟨_, H2⟩)
    · refine br_t a (br_t b ?_)
      rw [e]
      exact ⟨_, H2⟩
  · exact pk_eq md 0 (fun z => absurd z h0) (fun _ => ⟨rfl, J⟩)
end TRI
end
section
section TRJ
variable {xa xb xc xd xe xf xg xh xi ya yb yc yd ye yf yg yh yi : Int32} {qa qb qc qd qe qf qg qh qi pa pb pc pd pe pf pg : Nat → Int32}
/-! put: the tests of a variable, the accepted token, the finished sides -/
theorem tr_xM {post : Int32 → Prop} {en : Nat → Nat} {t cnt : Nat} (hc : cnt ≤ 64) (hf : tr_la qf en cnt) (ht : t < 24) (h24 : ∀ j, j < cnt → en j < 24) (k1 : (∃ j, j < cnt ∧ en j = t) → post 1) (k0 : (∀ j, j < cnt → en j ≠ t) → post 0) :
    wpX_amongEntryCells post (xa, xb, xc, xd, xe, xf, xg, xh, xi, qa, qb, qc, qd, qe, qf, qg, qh, qi) (nI t) (nI cnt) := by
  have H : ∀ n j : Nat, cnt + 1 ≤ n + j → j ≤ cnt → (∀ i, i < j → en i ≠ t) → wX_amongEntryCells_2 post (nI t) (nI cnt) xa xb xc xd xe xf xg xh xi qa qb qc qd qe qf qg qh qi n (nI j) := by
    intro n
    induction n with
    | zero => intro j a b; omega
    | succ n ih =>
      intro j hn hj ha
      refine pk_le cnt j (fun h => k0 fun i hi => ha i (by omega)) (fun h => ⟨vp_in_nI (by omega) (by decide), ?_⟩)
      have h2 := h24 j h
      rw [nI_clamp (show j < 2 ^ 31 by omega), hf j h]
      refine pk_eq (en j) t (fun e => k1 ⟨j, h, e⟩) (fun e => nm_r (nI_1 j) (ih (j + 1) (by omega) (by omega) fun i hi => ?_))
      by_cases z : i = j
      · subst z; exact e
      · exact ha i (by omega)
  exact ⟨cnt + 1, H (cnt + 1) 0 (by omega) (Nat.zero_le _) fun i hi => absurd hi (Nat.not_lt_zero _)⟩
theorem tr_y77 {post : Int32 → SY → Prop} {en : Nat → Nat} {t cnt : Nat} (hc : cnt ≤ 64) (hf : tr_la pf en cnt) (ht : t < 24) (h24 : ∀ j, j < cnt → en j < 24)
    (k1 : (∃ j, j < cnt ∧ en j = t) → (yf = 1 → post 4 (ya, yb, yc, yd, ye, yf, yg, yh, yi, pa, pb, pc, pd, pe, pf, pg)) ∧ (¬ yf = 1 → wY_put_121 post (nI t) ya yb yc yd ye yf yg yh yi pa pb pc pd pe pf pg)) (k0 : (∀ j, j < cnt → en j ≠ t) → (yf = 1 → wY_put_121 post (nI t) ya yb yc yd ye yf yg yh yi pa pb pc pd pe pf pg) ∧ (¬ yf = 1 → post 4 (ya, yb, yc, yd, ye, yf, yg, yh, yi, pa, pb, pc, pd, pe, pf, pg))) :
    ∀ n j : Nat, cnt + 1 ≤ n + j → j ≤ cnt → ((∃ i, i < j ∧ en i = t) → wY_put_77 post (nI t) (nI cnt) ya yb yc yd ye yf yg yh yi pa pb pc pd pe pf pg n 1 (nI j)) ∧ ((∀ i, i < j → en i ≠ t) → wY_put_77 post (nI t) (nI cnt) ya yb yc yd ye yf yg yh yi pa pb pc pd pe pf pg n 0 (nI j)) := by
  intro n
  induction n with
  | zero => intro j a b; omega
  | succ n ih =>
    intro j hn hj
    constructor
    · intro ⟨i, hi, ei⟩
      refine pk_le cnt j (fun h => ?_) (fun h => ⟨vp_in_nI (by omega) (by decide), ?_⟩)
      · have hk := k1 ⟨i, by omega, ei⟩
        exact ⟨fun e => br_t rfl (hk.1 e), fun e => br_f (by decide) (hk.2 e)⟩
      · have H := (ih (j + 1) (by omega) (by omega)).1 ⟨i, by omega, ei⟩
        exact br_c (fun _ => nm_r (nI_1 j) H) (fun _ => nm_r (nI_1 j) H)
    · intro ha
      refine pk_le cnt j (fun h => ?_) (fun h => ⟨vp_in_nI (by omega) (by decide), ?_⟩)
      · have hk := k0 fun i hi => ha i (by omega)
        exact ⟨fun e => br_f (by decide) (hk.1 e), fun e => br_t rfl (hk.2 e)⟩
      · have h2 := h24 j h
        rw [nI_clamp (show j < 2 ^ 31 by omega), hf j h]
        refine pk_eq (en j) t (fun e => nm_r (nI_1 j) ((ih (j + 1) (by omega) (by omega)).1 ⟨j, by omega, e⟩)) (fun e => nm_r (nI_1 j) ((ih (j + 1) (by omega) (by omega)).2 fun i hi => ?_))
        by_cases z : i = j
        · subst z; exact e
        · exact ha i (by omega)
def tr_ar (t : Nat) : Nat := if t < 16 then t / 4 else 0
theorem tr_ar_le {t : Nat} : tr_ar t ≤ 3 := by
  unfold tr_ar
  split <;> omega
theorem tr_xAr {post : Int32 → Prop} {t : Nat} (ht : t < 24) (hp : post (nI (tr_ar t))) : wpX_arityOf post (nI t) := by
  unfold tr_ar at hp
  refine pk_le 16 t (fun h => ?_) (fun h => ⟨by decide, ?_⟩)
  · rw [if_neg (by omega)] at hp
    exact hp
  · rw [if_pos h] at hp
    rw [tr_div4 (by omega)]
    exact hp
theorem tr_yAr {post : Int32 → Prop} {t : Nat} (ht : t < 24) (hp : post (nI (tr_ar t))) : wpY_arity post (ya, yb, yc, yd, ye, yf, yg, yh, yi, pa, pb, pc, pd, pe, pf, pg) (nI t) := by
  unfold tr_ar at hp
  refine pk_le 16 t (fun h => ?_) (fun h => ⟨by decide, ?_⟩)
  · rw [if_neg (by omega)] at hp
    exact hp
  · rw [if_pos h] at hp
    rw [tr_div4 (by omega)]
    exact hp
def tr_lim (md TL : Nat) : Nat := if md = 1 then 12 else if md = 2 then 16 else TL
theorem tr_lim1 {TL : Nat} : tr_lim 1 TL = 12 := rfl
theorem tr_lim2 {TL : Nat} : tr_lim 2 TL = 16 := rfl
theorem tr_lim3 {TL : Nat} : tr_lim 3 TL = TL := rfl
theorem tr_lim_le {md TL : Nat} (h : TL ≤ 64) : tr_lim md TL ≤ 64 := by
  unfold tr_lim
  split
  · omega
  · split <;> omega
theorem tr_xL {post : Int32 → Prop} {md TL : Nat} (hm : md ≤ 3) (hp : post (nI (tr_lim md TL))) : wpX_sideLimit post (xa, nI TL, xc, xd, xe, nI md, xg, xh, xi, qa, qb, qc, qd, qe, qf, qg, qh, qi) := by
  unfold tr_lim at hp
  refine pk_eq md 1 (fun e => ?_) (fun e => pk_eq md 2 (fun e2 => ?_) (fun e2 => ?_))
  · rw [if_pos e] at hp; exact hp
  · rw [if_neg e, if_pos e2] at hp; exact hp
  · rw [if_neg e, if_neg e2] at hp; exact hp
/-! the finished right side -/
theorem tr_xAdd {post : SX → Prop} {rc es : Nat} {en : Nat → Nat} (hrc : rc < 12) (hes : es ≤ 28) (hf : tr_la qf en es)
    (k0 : ∀ a, (∀ j, j < es → a (rc * 28 + j) = nI (en j)) → (∀ q, q < rc * 28 → a q = qa q) → post (xa, xb, nI (rc + 1), xd, xe, xf, nI es, xh, xi, a, upd qb rc xh, upd qc rc (nI es), upd qd rc 0, qe, qf, qg, qh, qi)) : wpX_addEnteredRule post (xa, xb, nI rc, xd, xe, xf, nI es, xh, xi, qa, qb, qc, qd, qe, qf, qg, qh, qi) := by
  have H : ∀ (n j : Nat) (a : Nat → Int32), es + 1 ≤ n + j → j ≤ es → (∀ i, i < j → a (rc * 28 + i) = nI (en i)) → (∀ q, q < rc * 28 → a q = qa q) → wX_addEnteredRule_10 post (nI (rc * 28)) xa xb (nI rc) xd xe xf (nI es) xh xi n (nI j) a qb qc qd qe qf qg qh qi := by
    intro n
    induction n with
    | zero => intro j a b c; omega
    | succ n ih =>
      intro j a hn hj h1 h2
      refine pk_le es j (fun h => ⟨vp_in_nI hrc (by decide), ?_⟩) (fun h => ⟨vp_in_nI (by omega) (by decide), by rw [nI_add]; exact vp_in_nI (by omega) (by decide), ?_⟩)
      · have e : j = es := by omega
        subst e
        rw [nI_clamp (show rc < 2 ^ 31 by omega)]
        exact nm_e ⟨vp_in_nI hrc (by decide), nm_e ⟨vp_in_nI hrc (by decide), nm_e (nm_r (nI_1 rc) (k0 a h1 h2))⟩⟩
      · rw [nI_add, nI_clamp (by omega), nI_clamp (by omega), hf j h]
        refine nm_e (nm_r (nI_1 j) (ih (j + 1) _ (by omega) (by omega) (fun i hi => ?_) (fun q hq => ?_)))
        · by_cases z : i = j
          · subst z; exact pk_us
          · rw [pk_un (by omega)]; exact h1 i (by omega)
        · rw [pk_un (by omega)]; exact h2 q hq
  exact nm_r (tr_m28 rc) ⟨es + 1, H (es + 1) 0 qa (by omega) (Nat.zero_le _) (fun i hi => absurd hi (Nat.not_lt_zero _)) (fun q _ => rfl)⟩
theorem tr_y269 {post : Int32 → SY → Prop} {rc n0 el : Nat} {en : Nat → Nat} (hrc : rc < 12) (hes : el + n0 ≤ 28) (hf : tr_la pf en (el + n0))
    (k0 : ∀ a, (∀ j, j < el + n0 → a (rc * 28 + j) = nI (en j)) → (∀ q, q < rc * 28 → a q = pa q) → post 1 (ya, yb, nI (rc + 1), yd, ye, 0, nI n0, yh, nI el, a, upd pb rc (nI el), upd pc rc (nI n0), upd pd rc 0, pe, pf, pg)) : ∃ n, wY_put_269 post ya yb (nI rc) yd ye yf (nI n0) yh (nI el) n 0 pa pb pc pd pe pf pg := by
  have H : ∀ (n j : Nat) (a : Nat → Int32), el + n0 + 1 ≤ n + j → j ≤ el + n0 → (∀ i, i < j → a (rc * 28 + i) = nI (en i)) → (∀ q, q < rc * 28 → a q = pa q) → wY_put_269 post ya yb (nI rc) yd ye yf (nI n0) yh (nI el) n (nI j) a pb pc pd pe pf pg := by
    intro n
    induction n with
    | zero => intro j a b c; omega
    | succ n ih =>
      intro j a hn hj h1 h2
      refine pk_le (el + n0) j (fun h => ⟨vp_in_nI hrc (by decide), ?_⟩) (fun h => ⟨vp_in_nI (by omega) (by decide), by rw [tr_28]; exact vp_in_nI (by omega) (by decide), ?_⟩) (hx := nI_add _ _)
      · have e : j = el + n0 := by omega
        subst e
        rw [nI_clamp (show rc < 2 ^ 31 by omega)]
        exact nm_e ⟨vp_in_nI hrc (by decide), nm_e ⟨vp_in_nI hrc (by decide), nm_e (nm_r (nI_1 rc) (k0 a h1 h2))⟩⟩
      · rw [tr_28, nI_clamp (by omega), nI_clamp (by omega), hf j h]
        refine nm_e (nm_r (nI_1 j) (ih (j + 1) _ (by omega) (by omega) (fun i hi => ?_) (fun q hq => ?_)))
        · by_cases z : i = j
          · subst z; exact pk_us
          · rw [pk_un (by omega)]; exact h1 i (by omega)
        · rw [pk_un (by omega)]; exact h2 q hq
  exact ⟨el + n0 + 1, H (el + n0 + 1) 0 pa (by omega) (Nat.zero_le _) (fun i hi => absurd hi (Nat.not_lt_zero _)) (fun q _ => rfl)⟩
/-! the finished term -/
theorem tr_xTake {post : SX → Prop} {rc es : Nat} {en : Nat → Nat} (hrc : rc ≤ 12) (hes : es ≤ 64) (hf : tr_la qf en es)
    (k0 : ∀ a b, tr_la a en es → (∀ q, q < rc → b q = 0) → post (xa, xb, nI rc, nI es, 0, xf, nI es, xh, xi, qa, qb, qc, b, a, qf, qg, qh, qi)) : wpX_takeEnteredTerm post (xa, xb, nI rc, xd, xe, xf, nI es, xh, xi, qa, qb, qc, qd, qe, qf, qg, qh, qi) := by
  have H2 : ∀ (a : Nat → Int32), tr_la a en es → ∀ (n j : Nat) (b : Nat → Int32), rc + 1 ≤ n + j → j ≤ rc → (∀ q, q < j → b q = 0) → wX_takeEnteredTerm_43 post xa xb (nI rc) (nI es) 0 xf (nI es) xh xi n (nI j) qa qb qc b a qf qg qh qi := by
    intro a ha n
    induction n with
    | zero => intro j b c d; omega
    | succ n ih =>
      intro j b hn hj h1
      refine pk_le rc j (fun h => k0 a b ha fun q hq => h1 q (by omega)) (fun h => ⟨vp_in_nI (by omega) (by decide), ?_⟩)
      rw [nI_clamp (show j < 2 ^ 31 by omega)]
      refine nm_e (nm_r (nI_1 j) (ih (j + 1) _ (by omega) (by omega) fun q hq => ?_))
      by_cases z : q = j
      · subst z; exact pk_us
      · rw [pk_un z]; exact h1 q (by omega)
  have H : ∀ (n j : Nat) (a : Nat → Int32), es + 1 ≤ n + j → j ≤ es → tr_la a en j → wX_takeEnteredTerm_2 post xa xb (nI rc) xd xe xf (nI es) xh xi n (nI j) qa qb qc qd a qf qg qh qi := by
    intro n
    induction n with
    | zero => intro j a b c; omega
    | succ n ih =>
      intro j a hn hj h1
      refine pk_le es j (fun h => ?_) (fun h => ⟨vp_in_nI (by omega) (by decide), vp_in_nI (by omega) (by decide), ?_⟩)
      · have e : j = es := by omega
        subst e
        exact ⟨rc + 1, H2 a h1 (rc + 1) 0 qd (by omega) (Nat.zero_le _) fun q hq => absurd hq (Nat.not_lt_zero _)⟩
      · rw [nI_clamp (show j < 2 ^ 31 by omega), hf j h]
        refine nm_e (nm_r (nI_1 j) (ih (j + 1) _ (by omega) (by omega) fun q hq => ?_))
        by_cases z : q = j
        · subst z; exact pk_us
        · rw [pk_un z]; exact h1 q (by omega)
  exact ⟨es + 1, H (es + 1) 0 qe (by omega) (Nat.zero_le _) fun q hq => absurd hq (Nat.not_lt_zero _)⟩
theorem tr_y363 {post : Int32 → SY → Prop} {es : Nat} {en : Nat → Nat} (hes : es ≤ 64) (hf : tr_la pf en es)
    (k0 : ∀ a b, tr_la a en es → (∀ q, q < 12 → b q = 0) → post 1 (ya, yb, yc, nI es, 0, 0, nI es, yh, yi, pa, pb, pc, b, a, pf, pg)) : ∃ n, wY_put_363 post ya yb yc yd ye yf (nI es) yh yi n 0 pa pb pc pd pe pf pg := by
  have H2 : ∀ (a : Nat → Int32), tr_la a en es → ∀ (n j : Nat) (b : Nat → Int32), 13 ≤ n + j → j ≤ 12 → (∀ q, q < j → b q = 0) → wY_put_408 post ya yb yc (nI es) 0 yf (nI es) yh yi n (nI j) pa pb pc b a pf pg := by
    intro a ha n
    induction n with
    | zero => intro j b c d; omega
    | succ n ih =>
      intro j b hn hj h1
      refine pk_le 12 j (fun h => k0 a b ha fun q hq => h1 q (by omega)) (fun h => ⟨vp_in_nI (by omega) (by decide), ?_⟩)
      rw [nI_clamp (show j < 2 ^ 31 by omega)]
      refine nm_e (nm_r (nI_1 j) (ih (j + 1) _ (by omega) (by omega) fun q hq => ?_))
      by_cases z : q = j
      · subst z; exact pk_us
      · rw [pk_un z]; exact h1 q (by omega)
  have H : ∀ (n j : Nat) (a : Nat → Int32), es + 1 ≤ n + j → j ≤ es → tr_la a en j → wY_put_363 post ya yb yc yd ye yf (nI es) yh yi n (nI j) pa pb pc pd a pf pg := by
    intro n
    induction n with
    | zero => intro j a b c; omega
    | succ n ih =>
      intro j a hn hj h1
      refine pk_le es j (fun h => ?_) (fun h => ⟨vp_in_nI (by omega) (by decide), vp_in_nI (by omega) (by decide), ?_⟩)
      · have e : j = es := by omega
        subst e
        exact ⟨13, H2 a h1 13 0 pd (by omega) (Nat.zero_le _) fun q hq => absurd hq (Nat.not_lt_zero _)⟩
      · rw [nI_clamp (show j < 2 ^ 31 by omega), hf j h]
        refine nm_e (nm_r (nI_1 j) (ih (j + 1) _ (by omega) (by omega) fun q hq => ?_))
        by_cases z : q = j
        · subst z; exact pk_us
        · rw [pk_un z]; exact h1 q (by omega)
  exact ⟨es + 1, H (es + 1) 0 pe (by omega) (Nat.zero_le _) fun q hq => absurd hq (Nat.not_lt_zero _)⟩
end TRJ
end
section
section TRK
variable {xa xb xc xd xe xf xg xh xi ya yb yc yd ye yf yg yh yi : Int32} {qa qb qc qd qe qf qg qh qi pa pb pc pd pe pf pg : Nat → Int32}
/-! put: an accepted token on either side, then both -/
theorem tr_x37 {post : Int32 → SX → Prop} {md TL rc n m el t : Nat} {en : Nat → Nat} (h3 : md ≤ 3) (h1 : 1 ≤ md) (hTL : TL ≤ 64) (hm : 1 ≤ m) (hnm : n + m ≤ 64) (hel : el ≤ 12) (hrc : rc ≤ 12) (hrl : md = 2 → rc < 12) (ht : t < 24)
    (hidx : n + 1 ≤ tr_lim md TL → el + n + 1 ≤ 64) (hf : tr_la (upd qf (el + n) (nI t)) en (el + n + 1))
    (k5 : tr_lim md TL < n + m + tr_ar t → post 5 (xa, nI TL, nI rc, xd, xe, nI md, nI (el + n), nI el, nI m, qa, qb, qc, qd, qe, qf, qg, qh, qi))
    (k0 : n + m + tr_ar t ≤ tr_lim md TL → 0 < m - 1 + tr_ar t → post 0 (xa, nI TL, nI rc, xd, xe, nI md, nI (el + n + 1), nI el, nI (m - 1 + tr_ar t), qa, qb, qc, qd, qe, upd qf (el + n) (nI t), qg, qh, qi))
    (kA : n + m + tr_ar t ≤ tr_lim md TL → m - 1 + tr_ar t = 0 → md = 1 → post 0 (xa, nI TL, nI rc, xd, xe, 2, nI (el + n + 1), nI (el + n + 1), 1, qa, qb, qc, qd, qe, upd qf (el + n) (nI t), qg, qh, qi))
    (kB : n + m + tr_ar t ≤ tr_lim md TL → m - 1 + tr_ar t = 0 → md = 2 → ∀ a, (∀ j, j < el + n + 1 → a (rc * 28 + j) = nI (en j)) → (∀ q, q < rc * 28 → a q = qa q) → post 1 (xa, nI TL, nI (rc + 1), xd, xe, 0, nI (el + n + 1), nI el, nI (m - 1 + tr_ar t), a, upd qb rc (nI el), upd qc rc (nI (el + n + 1)), upd qd rc 0, qe, upd qf (el + n) (nI t), qg, qh, qi))
    (kC : n + m + tr_ar t ≤ tr_lim md TL → m - 1 + tr_ar t = 0 → md = 3 → ∀ a b, tr_la a en (el + n + 1) → (∀ q, q < rc → b q = 0) → post 1 (xa, nI TL, nI rc, nI (el + n + 1), 0, 0, nI (el + n + 1), nI el, nI (m - 1 + tr_ar t), qa, qb, qc, b, a, upd qf (el + n) (nI t), qg, qh, qi)) :
    wX_put_37 post (nI t) xa (nI TL) (nI rc) xd xe (nI md) (nI (el + n)) (nI el) (nI m) qa qb qc qd qe qf qg qh qi := by
  have hA := tr_ar_le (t := t)
  have hL := tr_lim_le (md := md) hTL
  unfold wX_put_37
  refine tr_xAr ht ?_
  refine nm_r (e' := nI n) (by rw [pk_sub (by omega)]; exact congrArg nI (by omega)) ?_
  refine tr_xL h3 ?_
  refine pk_le (n + m + tr_ar t) (tr_lim md TL) (fun h => ⟨vp_in_nI (by have := hidx (by omega); omega) (by decide), ?_⟩) k5 (hx := by rw [nI_add, nI_add])
  rw [nI_clamp (show el + n < 2 ^ 31 by omega)]
  refine nm_e (nm_r (nI_1 _) (nm_r (tr_op1 hm) ?_))
  refine pk_le (m - 1 + tr_ar t) 0 (fun h2 => ?_) (fun h2 => k0 h h2)
  have h0 : m - 1 + tr_ar t = 0 := by omega
  refine pk_eq md 1 (fun e => kA h h0 e) (fun e => pk_eq md 2 (fun e2 => ?_) (fun e2 => ?_))
  · have eL : tr_lim md TL = 16 := by rw [e2]; exact tr_lim2
    exact tr_xAdd (hrl e2) (by omega) hf (fun a ha hb => kB h h0 e2 a ha hb)
  · exact tr_xTake hrc (hidx (by omega)) hf (fun a b ha hb => kC h h0 (by omega) a b ha hb)
theorem tr_y121 {post : Int32 → SY → Prop} {md TL rc n m el t : Nat} {en : Nat → Nat} (h3 : md ≤ 3) (h1 : 1 ≤ md) (hTL : TL ≤ 64) (hm : 1 ≤ m) (hnm : n + m ≤ 64) (hel : el ≤ 12) (hrc : rc ≤ 12) (hrl : md = 2 → rc < 12) (ht : t < 24)
    (hidx : n + 1 ≤ tr_lim md TL → el + n + 1 ≤ 64) (hf : tr_la (upd pf (el + n) (nI t)) en (el + n + 1)) (hyi : md = 2 → yi = nI el) (he0 : ¬ md = 2 → el = 0)
    (k5 : tr_lim md TL < n + m + tr_ar t → post 5 (ya, nI TL, nI rc, yd, ye, nI md, nI n, nI m, yi, pa, pb, pc, pd, pe, pf, pg))
    (k0 : n + m + tr_ar t ≤ tr_lim md TL → 0 < m - 1 + tr_ar t → post 0 (ya, nI TL, nI rc, yd, ye, nI md, nI (n + 1), nI (m - 1 + tr_ar t), yi, pa, pb, pc, pd, pe, upd pf (el + n) (nI t), pg))
    (kA : n + m + tr_ar t ≤ tr_lim md TL → m - 1 + tr_ar t = 0 → md = 1 → post 0 (ya, nI TL, nI rc, yd, ye, 2, 0, 1, nI (n + 1), pa, pb, pc, pd, pe, upd pf (el + n) (nI t), pg))
    (kB : n + m + tr_ar t ≤ tr_lim md TL → m - 1 + tr_ar t = 0 → md = 2 → ∀ a, (∀ j, j < el + n + 1 → a (rc * 28 + j) = nI (en j)) → (∀ q, q < rc * 28 → a q = pa q) → post 1 (ya, nI TL, nI (rc + 1), yd, ye, 0, nI (n + 1), nI (m - 1 + tr_ar t), yi, a, upd pb rc (nI el), upd pc rc (nI (n + 1)), upd pd rc 0, pe, upd pf (el + n) (nI t), pg))
    (kC : n + m + tr_ar t ≤ tr_lim md TL → m - 1 + tr_ar t = 0 → md = 3 → ∀ a b, tr_la a en (el + n + 1) → (∀ q, q < 12 → b q = 0) → post 1 (ya, nI TL, nI rc, nI (n + 1), 0, 0, nI (n + 1), nI (m - 1 + tr_ar t), yi, pa, pb, pc, b, a, upd pf (el + n) (nI t), pg)) :
    wY_put_121 post (nI t) ya (nI TL) (nI rc) yd ye (nI md) (nI n) (nI m) yi pa pb pc pd pe pf pg := by
  have hA := tr_ar_le (t := t)
  have hL := tr_lim_le (md := md) hTL
  have H2 : n + m + tr_ar t ≤ tr_lim md TL → wY_put_203 post (nI t) (nI (tr_ar t)) (nI (el + n)) ya (nI TL) (nI rc) yd ye (nI md) (nI n) (nI m) yi pa pb pc pd pe pf pg := by
    intro h
    refine ⟨vp_in_nI (by have := hidx (by omega); omega) (by decide), ?_⟩
    rw [nI_clamp (show el + n < 2 ^ 31 by omega)]
    refine nm_e (nm_r (nI_1 _) (nm_r (tr_op2 hm) ?_))
    refine pk_le (m - 1 + tr_ar t) 0 (fun h2 => ?_) (fun h2 => k0 h h2)
    have h0 : m - 1 + tr_ar t = 0 := by omega
    refine pk_eq md 1 (fun e => kA h h0 e) (fun e => pk_eq md 2 (fun e2 => ?_) (fun e2 => ?_))
    · have eL : tr_lim md TL = 16 := by rw [e2]; exact tr_lim2
      have e4 := hyi e2
      subst e4
      exact tr_y269 (n0 := n + 1) (hrl e2) (by omega) hf (fun a ha hb => kB h h0 e2 a ha hb)
    · have e5 := he0 e2
      have hi := hidx (by omega)
      subst e5
      have hf2 : tr_la (upd pf (0 + n) (nI t)) en (n + 1) := by
        rw [Nat.zero_add] at hf ⊢
        exact hf
      exact tr_y363 (es := n + 1) (by omega) hf2 (fun a b ha hb => kC h h0 (by omega) a b (by rw [Nat.zero_add]; exact ha) hb)
  have H : wY_put_157 post (nI t) (nI (tr_ar t)) (nI (tr_lim md TL)) ya (nI TL) (nI rc) yd ye (nI md) (nI n) (nI m) yi pa pb pc pd pe pf pg := by
    refine pk_le (n + m + tr_ar t) (tr_lim md TL) (fun h => ?_) k5 (hx := by rw [nI_add, nI_add])
    have H3 := H2 h
    refine pk_eq md 2 (fun e => ?_) (fun e => ?_)
    · have e4 := hyi e
      rw [← nI_add, ← e4] at H3
      exact H3
    · rw [he0 e, Nat.zero_add] at H3
      exact H3
  unfold wY_put_121
  refine tr_yAr ht ?_
  refine pk_eq md 1 (fun e => ?_) (fun e => pk_eq md 2 (fun e2 => ?_) (fun e2 => ?_))
  · rw [show tr_lim md TL = 12 by rw [e]; exact tr_lim1] at H
    exact H
  · rw [show tr_lim md TL = 16 by rw [e2]; exact tr_lim2] at H
    exact H
  · rw [show tr_lim md TL = TL by rw [show md = 3 by omega]; exact tr_lim3] at H
    exact H
/-- the entry's cells with one more -/
def tr_e1 (en : Nat → Nat) (p t : Nat) : Nat → Nat := fun j => if j = p then t else en j
theorem tr_e1_e {en : Nat → Nat} {p t : Nat} : tr_e1 en p t p = t := if_pos rfl
theorem tr_e1_n {en : Nat → Nat} {p t j : Nat} (h : j ≠ p) : tr_e1 en p t j = en j := if_neg h
theorem tr_e1_24 {en : Nat → Nat} {p t b : Nat} (h : ∀ j, j < p → en j < b) (ht : t < b) : ∀ j, j < p + 1 → tr_e1 en p t j < b := fun j hj => by
  by_cases e : j = p
  · subst e; rw [tr_e1_e]; exact ht
  · rw [tr_e1_n e]; exact h j (by omega)
theorem tr_e1_lin {en : Nat → Nat} {p t : Nat} (h : tr_lin en p) (hV : 16 ≤ t → ∀ j, j < p → en j ≠ t) : tr_lin (tr_e1 en p t) (p + 1) := fun j k hj hk e h16 => by
  by_cases ej : j = p
  · subst ej
    rw [tr_e1_e] at e h16
    by_cases ek : k = j
    · exact ek.symm
    · rw [tr_e1_n ek] at e
      exact absurd e.symm (hV h16 k (by omega))
  · rw [tr_e1_n ej] at e h16
    by_cases ek : k = p
    · subst ek
      rw [tr_e1_e] at e
      exact absurd e (hV (by omega) j (by omega))
    · rw [tr_e1_n ek] at e
      exact h j k (by omega) (by omega) e h16
/-- a variable that may stand there -/
def tr_hv (md n el t : Nat) (en : Nat → Nat) : Prop := 16 ≤ t → (md = 1 ∧ ∀ j, j < n → en j ≠ t) ∨ (md = 2 ∧ ∃ j, j < el ∧ en j = t)
theorem tr_en1 {md TL n m el t : Nat} {en : Nat → Nat} (he : tr_en md TL n m el yi en) (hm : 1 ≤ m) (ht : t < 24) (hV : tr_hv md n el t en) (hs : n + m + tr_ar t ≤ tr_lim md TL) :
    tr_en md TL (n + 1) (m - 1 + tr_ar t) el yi (tr_e1 en (el + n) t) := by
  rcases he with ⟨rfl, rfl, e3, e4, e5⟩ | ⟨rfl, e2, e3, e4, e5, e6, e7⟩ | ⟨rfl, rfl, e3, e4⟩
  · rw [tr_lim1] at hs
    rw [Nat.zero_add]
    refine Or.inl ⟨rfl, rfl, by omega, tr_e1_24 e4 ht, tr_e1_lin e5 fun h16 j hj => ?_⟩
    rcases hV h16 with ⟨-, z⟩ | ⟨z, -⟩
    · exact z j hj
    · omega
  · rw [tr_lim2] at hs
    refine Or.inr (Or.inl ⟨rfl, e2, e3, by omega, tr_e1_24 e5 ht, fun j k hj hk e h16 => ?_, fun j h1 h2 h16 => ?_⟩)
    · rw [tr_e1_n (by omega)] at e h16
      rw [tr_e1_n (by omega)] at e
      exact e6 j k hj hk e h16
    · by_cases ej : j = el + n
      · subst ej
        rw [tr_e1_e] at h16
        rcases hV h16 with ⟨z, -⟩ | ⟨-, q, hq, z⟩
        · omega
        · exact ⟨q, hq, by rw [tr_e1_n (by omega), tr_e1_e]; exact z⟩
      · rw [tr_e1_n ej] at h16
        obtain ⟨q, hq, z⟩ := e7 j h1 (by omega) h16
        exact ⟨q, hq, by rw [tr_e1_n (by omega), tr_e1_n ej]; exact z⟩
  · rw [tr_lim3] at hs
    rw [Nat.zero_add]
    refine Or.inr (Or.inr ⟨rfl, rfl, by omega, tr_e1_24 e4 ?_⟩)
    by_cases h16 : t < 16
    · exact h16
    · rcases hV (by omega) with ⟨z, -⟩ | ⟨z, -⟩ <;> omega
/-- the rules with one more -/
def tr_R2 (R : Nat → TrD) (rc : Nat) (D : TrD) : Nat → TrD := fun q => if q = rc then D else R q
theorem tr_R2_e {R : Nat → TrD} {rc : Nat} {D : TrD} : tr_R2 R rc D rc = D := if_pos rfl
theorem tr_R2_n {R : Nat → TrD} {rc q : Nat} {D : TrD} (h : q ≠ rc) : tr_R2 R rc D q = R q := if_neg h
theorem tr_addR {R : Nat → TrD} {rc l rl : Nat} {c : Nat → Nat} {a a2 : Nat → Int32} (hR : tr_R qa qb qc qd pa pb pc pd R rc) (ok : tr_ok (l, rl, 0, c))
    (hx : ∀ j, j < l + rl → a (rc * 28 + j) = nI (c j)) (hx2 : ∀ q, q < rc * 28 → a q = qa q) (hy : ∀ j, j < l + rl → a2 (rc * 28 + j) = nI (c j)) (hy2 : ∀ q, q < rc * 28 → a2 q = pa q) :
    tr_R a (upd qb rc (nI l)) (upd qc rc (nI (l + rl))) (upd qd rc 0) a2 (upd pb rc (nI l)) (upd pc rc (nI rl)) (upd pd rc 0) (tr_R2 R rc (l, rl, 0, c)) (rc + 1) := by
  intro q hq
  by_cases e : q = rc
  · subst e
    rw [tr_R2_e]
    exact ⟨ok, ⟨pk_us, pk_us, pk_us, hx⟩, ⟨pk_us, pk_us, pk_us, hy⟩⟩
  · obtain ⟨o, ⟨x1, x2, x3, x4⟩, ⟨y1, y2, y3, y4⟩⟩ := hR q (by omega)
    have o1 := o.1
    have o2 := o.2.1
    rw [tr_R2_n e]
    exact ⟨o, ⟨by rw [pk_un e]; exact x1, by rw [pk_un e]; exact x2, by rw [pk_un e]; exact x3, fun j hj => by rw [hx2 _ (by omega)]; exact x4 j hj⟩, ⟨by rw [pk_un e]; exact y1, by rw [pk_un e]; exact y2, by rw [pk_un e]; exact y3, fun j hj => by rw [hy2 _ (by omega)]; exact y4 j hj⟩⟩
/-- the rules with no step made -/
def tr_R0 (R : Nat → TrD) : Nat → TrD := fun q => ((R q).1, (R q).2.1, 0, (R q).2.2.2)
theorem tr_zeroR {R : Nat → TrD} {rc : Nat} {b b2 : Nat → Int32} (hrc : rc ≤ 12) (hR : tr_R qa qb qc qd pa pb pc pd R rc) (hx : ∀ q, q < rc → b q = 0) (hy : ∀ q, q < 12 → b2 q = 0) : tr_R qa qb qc b pa pb pc b2 (tr_R0 R) rc := by
  intro q hq
  obtain ⟨o, ⟨x1, x2, x3, x4⟩, ⟨y1, y2, y3, y4⟩⟩ := hR q hq
  exact ⟨o, ⟨x1, x2, hx q hq, x4⟩, ⟨y1, y2, hy q (by omega), y4⟩⟩
theorem tr_acc {k RL TL rc s md n m el t : Nat} {R : Nat → TrD} {T en : Nat → Nat} {sc : Int32} {Yp : Int32 → SX → Prop} (h : tr_inv RL TL rc s md R T (nI (el + n)) (nI el) (nI m) (nI n) (nI m) yi qa qb qc qd qe qf pa pb pc pd pe pf)
    (h1 : 1 ≤ md) (hm : 1 ≤ m) (hq : tr_la qf en (el + n)) (hf : tr_la pf en (el + n)) (hrc : md = 3 ∨ rc < RL) (he : tr_en md TL n m el yi en) (ht : t < 24) (hV : tr_hv md n el t en)
    (C : ∀ (a : Int32) (u' : SX), (∀ post : Int32 → SY → Prop, (∀ v', i_Rel k u' v' → post a v') → wY_put_121 post (nI t) (nI RL) (nI TL) (nI rc) (nI s) sc (nI md) (nI n) (nI m) yi pa pb pc pd pe pf pg) → Yp a u') :
    wX_put_37 Yp (nI t) (nI RL) (nI TL) (nI rc) (nI s) sc (nI md) (nI (el + n)) (nI el) (nI m) qa qb qc qd qe qf qg qh qi := by
  obtain ⟨b1, b2, b3, b4, b5, b6, b7⟩ := h.1
  have hA := tr_ar_le (t := t)
  have hb : n + m ≤ 64 ∧ el ≤ 12 ∧ (n + 1 ≤ tr_lim md TL → el + n + 1 ≤ 64) ∧ (md = 2 → yi = nI el) ∧ (¬ md = 2 → el = 0) := by
    rcases he with ⟨rfl, rfl, e3, -⟩ | ⟨rfl, e2, e3, e4, -⟩ | ⟨rfl, rfl, e3, -⟩
    · exact ⟨by omega, by omega, fun z => by rw [tr_lim1] at z; omega, fun z => by omega, fun _ => rfl⟩
    · exact ⟨by omega, by omega, fun z => by rw [tr_lim2] at z; omega, fun _ => e2, fun z => by omega⟩
    · exact ⟨by omega, by omega, fun z => by rw [tr_lim3] at z; omega, fun z => by omega, fun _ => rfl⟩
  obtain ⟨c1, c2, c3, c4, c5⟩ := hb
  have hq1 : tr_la (upd qf (el + n) (nI t)) (tr_e1 en (el + n) t) (el + n + 1) := tr_la_put hq
  have hf1 : tr_la (upd pf (el + n) (nI t)) (tr_e1 en (el + n) t) (el + n + 1) := tr_la_put hf
  refine tr_x37 b7 h1 b4 hm c1 c2 (by omega) (fun z => by omega) ht c3 hq1 (fun z => C _ _ fun post hp => ?_) (fun z z0 => C _ _ fun post hp => ?_) (fun z z0 z1 => C _ _ fun post hp => ?_) (fun z z0 z1 a ha ha2 => C _ _ fun post hp => ?_) (fun z z0 z1 a b ha hb => C _ _ fun post hp => ?_)
  · exact tr_y121 b7 h1 b4 hm c1 c2 (by omega) (fun z => by omega) ht c3 hf1 c4 c5 (fun _ => hp _ (tr_mk h)) (fun w => absurd z (by omega)) (fun w => absurd z (by omega)) (fun w => absurd z (by omega)) (fun w => absurd z (by omega))
  · refine tr_y121 b7 h1 b4 hm c1 c2 (by omega) (fun z => by omega) ht c3 hf1 c4 c5 (fun w => absurd z (by omega)) (fun _ _ => hp _ (tr_mk (R := R) (T := T) ?_)) (fun _ w => absurd z0 (by omega)) (fun _ w => absurd z0 (by omega)) (fun _ w => absurd z0 (by omega))
    exact ⟨h.1, h.2.1, h.2.2.1, Or.inr ⟨n + 1, m - 1 + tr_ar t, el, tr_e1 en (el + n) t, rfl, rfl, rfl, rfl, rfl, z0, hq1, hf1, hrc, tr_en1 he hm ht hV z⟩⟩
  · refine tr_y121 b7 h1 b4 hm c1 c2 (by omega) (fun z => by omega) ht c3 hf1 c4 c5 (fun w => absurd z (by omega)) (fun _ w => absurd z0 (by omega)) (fun _ _ _ => hp _ (tr_mk (md := 2) (R := R) (T := T) ?_)) (fun _ _ w => absurd z1 (by omega)) (fun _ _ w => absurd z1 (by omega))
    subst z1
    have hE := tr_en1 he hm ht hV z
    have e0 : el = 0 := c5 (by decide)
    subst e0
    rw [Nat.zero_add] at hq1 hf1 hE ⊢
    rcases hE with ⟨-, -, e3, e4, e5⟩ | ⟨w, -⟩ | ⟨w, -⟩
    · exact ⟨⟨b1, b2, b3, b4, b5, b6, by omega⟩, h.2.1, h.2.2.1, Or.inr ⟨0, 1, n + 1, tr_e1 en n t, rfl, rfl, rfl, rfl, rfl, Nat.le_refl _, hq1, hf1, Or.inr (by omega), Or.inr (Or.inl ⟨rfl, rfl, by omega, by decide, e4, e5, fun j w1 w2 => by omega⟩)⟩⟩
    · omega
    · omega
  · refine tr_y121 b7 h1 b4 hm c1 c2 (by omega) (fun z => by omega) ht c3 hf1 c4 c5 (fun w => absurd z (by omega)) (fun _ w => absurd z0 (by omega)) (fun _ _ w => absurd z1 (by omega)) (fun _ _ _ a2 hy hy2 => hp _ (tr_mk (md := 0) (R := tr_R2 R rc (el, n + 1, 0, tr_e1 en (el + n) t)) (T := T) ?_)) (fun _ _ w => absurd z1 (by omega))
    subst z1
    have hE := tr_en1 he hm ht hV z
    rcases hE with ⟨w, -⟩ | ⟨-, e2, e3, e4, e5, e6, e7⟩ | ⟨w, -⟩
    · omega
    · exact ⟨⟨b1, b2, b3, b4, by omega, b6, by omega⟩, tr_addR h.2.1 ⟨e3, show n + 1 ≤ 16 by omega, e5, e6, e7⟩ ha ha2 hy hy2, h.2.2.1, Or.inl rfl⟩
    · omega
  · refine tr_y121 b7 h1 b4 hm c1 c2 (by omega) (fun z => by omega) ht c3 hf1 c4 c5 (fun w => absurd z (by omega)) (fun _ w => absurd z0 (by omega)) (fun _ _ w => absurd z1 (by omega)) (fun _ _ w => absurd z1 (by omega)) (fun _ _ _ a2 b2' hy hy2 => hp _ ?_)
    subst z1
    have hE := tr_en1 he hm ht hV z
    have e0 : el = 0 := c5 (by decide)
    subst e0
    rw [Nat.zero_add] at ha hy hE ⊢
    refine tr_mk (md := 0) (R := tr_R0 R) (T := tr_e1 en n t) ?_
    rcases hE with ⟨w, -⟩ | ⟨w, -⟩ | ⟨-, -, e3, e4⟩
    · omega
    · omega
    · exact ⟨⟨b1, b2, b3, b4, b5, by omega, by omega⟩, tr_zeroR (by omega) h.2.1 hb hy2, ⟨ha, hy, e4⟩, Or.inl rfl⟩
theorem i_vc_put {k : Nat} {u : SX} {v : SY} (I : i_Rel k u v) (hk : k + 3 ≤ 1538) (v1 : Int32) : wpX_put (fun r u' => wpY_put (fun r' v' => r' = r ∧ i_Rel (k + 3) u' v') v v1) u v1 := by
  have J := i_up I
  obtain ⟨RL, TL, rc, s, md, R, T, sc, xg, xh, xi, yg, yh, yi, qa, qb, qc, qd, qe, qf, qg, qh, qi, pa, pb, pc, pd, pe, pf, pg, rfl, rfl, h⟩ := I
  have hb := h.1
  by_cases h0 : md = 0
  · subst h0
    exact br_t rfl (br_t rfl ⟨rfl, J⟩)
  have h0' := nI_ne0 (n := md) (by omega) (by omega)
  rcases pk_ix v1 (n := 24) (by decide) with z | z | ⟨t, ht, rfl⟩
  · exact br_f h0' (br_t z (br_f h0' (br_t z ⟨rfl, J⟩)))
  · have z0 : ¬ v1 < 0 := tr_ge0 (n := 24) (by decide) z
    have z1 : ¬ v1 ≤ 23 := fun w => nI_ge (a := 23) (b := 24) (by decide) (by decide) (Int32.le_trans z w)
    exact br_f h0' (br_f z0 (br_f z1 (br_f h0' (br_f z0 (br_f z1 ⟨rfl, J⟩)))))
  have z0 : ¬ nI t < 0 := nI_pos (by omega)
  have z1 : nI t ≤ 23 := nI_le (b := 23) (by omega) (by decide)
  have hent := h.2.2.2
  rcases hent with w | ⟨n, m, el, en, rfl, rfl, rfl, rfl, rfl, hm, hq, hf, hrc, he⟩
  · exact absurd w h0
  by_cases h16 : t < 16
  · have z2 : nI t < 16 := nI_lt (b := 16) h16 (by decide)
    exact br_f h0' (br_f z0 (br_t z1 (br_t z2 (tr_acc (k := k + 3) h (by omega) hm hq hf hrc he ht (fun w => absurd w (by omega)) (fun a u' H => br_f h0' (br_f z0 (br_t z1 (br_t z2 (H _ fun v' hv => ⟨rfl, hv⟩)))))))))
  · have z2 : ¬ nI t < 16 := nI_nlt (b := 16) (by omega) (by omega)
    refine br_f h0' (br_f z0 (br_t z1 (br_f z2 ?_)))
    have he2 := he
    rcases he2 with ⟨rfl, rfl, e3, e4, e5⟩ | ⟨rfl, e2, e3, e4, e5, e6, e7⟩ | ⟨rfl, rfl, e3, e4⟩
    · have hq' : tr_la qf en n := fun j hj => hq j (by omega)
      have hf' : tr_la pf en n := fun j hj => hf j (by omega)
      have n31 : ¬ nI 1 = 3 := by decide
      have n11 : nI 1 = 1 := rfl
      unfold wpX_variableMayStand
      refine br_t n11 (pk_le (0 + n) 0 (fun w => ?_) (fun w => ?_))
      · exact br_t rfl (br_f h0' (br_f z0 (br_t z1 (br_f z2 (br_f n31 (br_t n11 (pk_eq n 0 (fun _ => ⟨rfl, J⟩) (fun y => absurd w (by omega)))))))))
      · have hY : ∀ post : Int32 → SY → Prop, ((∃ j, j < n ∧ en j = t) → post 4 (nI RL, nI TL, nI rc, nI s, sc, nI 1, nI n, nI m, yi, pa, pb, pc, pd, pe, pf, pg)) → ((∀ j, j < n → en j ≠ t) → wY_put_121 post (nI t) (nI RL) (nI TL) (nI rc) (nI s) sc (nI 1) (nI n) (nI m) yi pa pb pc pd pe pf pg) →
            wpY_put post (nI RL, nI TL, nI rc, nI s, sc, nI 1, nI n, nI m, yi, pa, pb, pc, pd, pe, pf, pg) (nI t) := by
          intro post k1 k0
          refine br_f h0' (br_f z0 (br_t z1 (br_f z2 (br_f n31 (br_t n11 (pk_eq n 0 (fun y => absurd w (by omega)) (fun _ => br_t n11 ⟨n + 1, ?_⟩)))))))
          exact (tr_y77 (by omega) hf' ht e4 (fun y => br_t n11 (k1 y)) (fun y => br_t n11 (k0 y)) (n + 1) 0 (by omega) (Nat.zero_le _)).2 fun i hi => absurd hi (Nat.not_lt_zero _)
        refine tr_xM (by omega) hq ht (fun j hj => e4 j (by omega)) (fun y => ?_) (fun y => ?_)
        · obtain ⟨j, hj, e⟩ := y
          exact br_f (by decide) (br_t rfl (hY _ (fun _ => ⟨rfl, J⟩) (fun y2 => absurd e (y2 j (by omega)))))
        · refine br_t rfl (br_f (by decide) ?_)
          exact tr_acc (k := k + 3) h (by omega) hm hq hf hrc he ht (fun _ => Or.inl ⟨rfl, fun j hj => y j (by omega)⟩) (fun a u' H => hY _ (fun ⟨j, hj, e⟩ => absurd e (y j (by omega))) (fun _ => H _ fun v' hv => ⟨rfl, hv⟩))
    · have n21 : ¬ nI 2 = 1 := by decide
      have n23 : ¬ nI 2 = 3 := by decide
      have n22 : nI 2 = 2 := rfl
      subst e2
      have hfl : tr_la pf en el := fun j hj => hf j (by omega)
      have hql : tr_la qf en el := fun j hj => hq j (by omega)
      have e4l : ∀ j, j < el → en j < 24 := fun j hj => e5 j (by omega)
      have hY : ∀ post : Int32 → SY → Prop, ((∀ j, j < el → en j ≠ t) → post 4 (nI RL, nI TL, nI rc, nI s, sc, nI 2, nI n, nI m, nI el, pa, pb, pc, pd, pe, pf, pg)) → ((∃ j, j < el ∧ en j = t) → wY_put_121 post (nI t) (nI RL) (nI TL) (nI rc) (nI s) sc (nI 2) (nI n) (nI m) (nI el) pa pb pc pd pe pf pg) →
          wpY_put post (nI RL, nI TL, nI rc, nI s, sc, nI 2, nI n, nI m, nI el, pa, pb, pc, pd, pe, pf, pg) (nI t) := by
        intro post k1 k0
        refine br_f h0' (br_f z0 (br_t z1 (br_f z2 (br_f n23 (br_f n21 (br_f n21 ⟨el + 1, ?_⟩))))))
        exact (tr_y77 (by omega) hfl ht e4l (fun y => br_f n21 (k0 y)) (fun y => br_f n21 (k1 y)) (el + 1) 0 (by omega) (Nat.zero_le _)).2 fun i hi => absurd hi (Nat.not_lt_zero _)
      unfold wpX_variableMayStand
      refine br_f n21 (br_t n22 (tr_xM (by omega) hql ht e4l (fun y => br_f (by decide) (br_f (by decide) ?_)) (fun y => br_t rfl (br_t rfl (hY _ (fun _ => ⟨rfl, J⟩) (fun y2 => ?_))))))
      · refine tr_acc (k := k + 3) h (by omega) hm hq hf hrc he ht (fun _ => Or.inr ⟨rfl, y⟩) (fun a u' H => hY _ (fun y2 => ?_) (fun _ => H _ fun v' hv => ⟨rfl, hv⟩))
        obtain ⟨j, hj, e⟩ := y
        exact absurd e (y2 j hj)
      · obtain ⟨j, hj, e⟩ := y2
        exact absurd e (y j hj)
    · have n31 : ¬ nI 3 = 1 := by decide
      have n32 : ¬ nI 3 = 2 := by decide
      have n33 : nI 3 = 3 := rfl
      unfold wpX_variableMayStand
      exact br_f n31 (br_f n32 (br_t rfl (br_f h0' (br_f z0 (br_t z1 (br_f z2 (br_t n33 ⟨rfl, J⟩)))))))
end TRK
end
section
section TRL
variable {xa xb xc xd xe xf xg xh xi ya yb yc yd ye yf yg yh yi : Int32} {qa qb qc qd qe qf qg qh qi pa pb pc pd pe pf pg : Nat → Int32}
/-! dropRule -/
def tr_sh (R : Nat → TrD) (r : Nat) : Nat → TrD := fun q => if q < r then R q else R (q + 1)
theorem tr_sh_l {R : Nat → TrD} {r q : Nat} (h : q < r) : tr_sh R r q = R q := if_pos h
theorem tr_sh_g {R : Nat → TrD} {r q : Nat} (h : ¬ q < r) : tr_sh R r q = R (q + 1) := if_neg h
theorem tr_xMv {post : SX → Prop} {D : TrD} {to : Nat} (hto : to + 1 < 12) (h28 : D.1 + D.2.1 ≤ 28) (hD : tr_xr qa qb qc qd (to + 1) D)
    (k0 : ∀ a, (∀ i, i < D.1 + D.2.1 → a (to * 28 + i) = nI (D.2.2.2 i)) → (∀ p, p < to * 28 ∨ to * 28 + 28 ≤ p → a p = qa p) → post (xa, xb, xc, xd, xe, xf, xg, xh, xi, a, upd qb to (nI D.1), upd qc to (nI (D.1 + D.2.1)), upd qd to D.2.2.1, qe, qf, qg, qh, qi)) : wpX_moveRuleDown post (xa, xb, xc, xd, xe, xf, xg, xh, xi, qa, qb, qc, qd, qe, qf, qg, qh, qi) (nI to) := by
  obtain ⟨d1, d2, d3, d4⟩ := hD
  have H : ∀ (n j : Nat) (a : Nat → Int32), D.1 + D.2.1 + 1 ≤ n + j → j ≤ D.1 + D.2.1 → (∀ i, i < j → a (to * 28 + i) = nI (D.2.2.2 i)) → (∀ p, p < to * 28 ∨ to * 28 + 28 ≤ p → a p = qa p) →
      wX_moveRuleDown_6 post (nI to) (nI (to + 1)) xa xb xc xd xe xf xg xh xi n (nI j) a qb qc qd qe qf qg qh qi := by
    intro n
    induction n with
    | zero => intro j a b c; omega
    | succ n ih =>
      intro j a hn hj h1 h2
      have v1 : vp_in (nI to) 12 := vp_in_nI (by omega) (by decide)
      have v2 : vp_in (nI (to + 1)) 12 := vp_in_nI hto (by decide)
      refine ⟨v2, ?_⟩
      rw [nI_clamp (show to + 1 < 2 ^ 31 by omega), nI_clamp (show to < 2 ^ 31 by omega), d1, d2, d3]
      refine pk_le (D.1 + D.2.1) j (fun h => ⟨v2, v1, nm_e ⟨v2, v1, nm_e ⟨v2, v1, nm_e ?_⟩⟩⟩) (fun h => ⟨by rw [tr_28]; exact vp_in_nI (by omega) (by decide), by rw [tr_28]; exact vp_in_nI (by omega) (by decide), ?_⟩)
      · have e : j = D.1 + D.2.1 := by omega
        subst e
        exact k0 a h1 h2
      · rw [tr_28, tr_28, nI_clamp (by omega), nI_clamp (by omega), h2 _ (by omega), d4 j h]
        refine nm_e (nm_r (nI_1 j) (ih (j + 1) _ (by omega) (by omega) (fun i hi => ?_) (fun p hp => ?_)))
        · by_cases z : i = j
          · subst z; exact pk_us
          · rw [pk_un (by omega)]; exact h1 i (by omega)
        · rw [pk_un (by omega)]; exact h2 p hp
  exact nm_r (nI_1 to) ⟨D.1 + D.2.1 + 1, H (D.1 + D.2.1 + 1) 0 qa (by omega) (Nat.zero_le _) (fun i hi => absurd hi (Nat.not_lt_zero _)) (fun p _ => rfl)⟩
theorem tr_row {q to : Nat} {D : TrD} (hq : q ≠ to) (h28 : D.1 + D.2.1 ≤ 28) {i : Nat} (hi : i < D.1 + D.2.1) : q * 28 + i < to * 28 ∨ to * 28 + 28 ≤ q * 28 + i := by omega
theorem tr_xDr {post : Int32 → SX → Prop} {R : Nat → TrD} {rc r : Nat} (hrc : rc < 12) (hr : r ≤ rc) (h28 : ∀ q, q < rc + 1 → (R q).1 + (R q).2.1 ≤ 28)
    (k0 : ∀ qa qb qc qd, (∀ q, q < rc → tr_xr qa qb qc qd q (tr_sh R r q)) → post 0 (xa, xb, nI rc, xd, xe, xf, xg, xh, xi, qa, qb, qc, qd, qe, qf, qg, qh, qi)) : ∀ (n to : Nat) (qa qb qc qd : Nat → Int32), rc + 1 ≤ n + to → r ≤ to → to ≤ rc → (∀ q, q < to → tr_xr qa qb qc qd q (tr_sh R r q)) → (∀ q, to ≤ q → q < rc + 1 → tr_xr qa qb qc qd q (R q)) →
    wX_dropRule_25 post n (nI to) xa xb (nI (rc + 1)) xd xe xf xg xh xi qa qb qc qd qe qf qg qh qi := by
  intro n
  induction n with
  | zero => intro to qa qb qc qd a b c; omega
  | succ n ih =>
    intro to qa qb qc qd hn hrt hto h1 h2
    refine pk_le rc to (fun h => nm_r (nI_pred rc) (k0 _ _ _ _ fun q hq => h1 q (by omega))) (fun h => ?_) (hx := nI_pred rc)
    refine tr_xMv (D := R (to + 1)) (by omega) (h28 _ (by omega)) (h2 _ (by omega) (by omega)) (fun a ha hb => nm_r (nI_1 to) ?_)
    refine ih (to + 1) _ _ _ _ (by omega) (by omega) (by omega) (fun q hq => ?_) (fun q hq hq2 => ?_)
    · by_cases e : q = to
      · subst e
        rw [tr_sh_g (by omega)]
        exact ⟨pk_us, pk_us, pk_us, ha⟩
      · obtain ⟨x1, x2, x3, x4⟩ := h1 q (by omega)
        have h3 : (tr_sh R r q).1 + (tr_sh R r q).2.1 ≤ 28 := by
          unfold tr_sh
          split
          · exact h28 q (by omega)
          · exact h28 (q + 1) (by omega)
        exact ⟨by rw [pk_un e]; exact x1, by rw [pk_un e]; exact x2, by rw [pk_un e]; exact x3, fun i hi => by rw [hb _ (tr_row e h3 hi)]; exact x4 i hi⟩
    · have e : q ≠ to := by omega
      obtain ⟨x1, x2, x3, x4⟩ := h2 q (by omega) hq2
      exact ⟨by rw [pk_un e]; exact x1, by rw [pk_un e]; exact x2, by rw [pk_un e]; exact x3, fun i hi => by rw [hb _ (tr_row e (h28 q hq2) hi)]; exact x4 i hi⟩
abbrev TrK : Type := Int32 → (Nat → Int32) → (Nat → Int32) → (Nat → Int32) → (Nat → Int32) → (Nat → Int32) → (Nat → Int32) → (Nat → Int32) → Prop
theorem tr_yMv {post : Int32 → SY → Prop} {J : TrK} {D : TrD} {to : Nat} (hto : to + 1 < 12) (h28 : D.1 + D.2.1 ≤ 28) (hD : tr_yr pa pb pc pd (to + 1) D)
    (k0 : ∀ a, (∀ i, i < D.1 + D.2.1 → a (to * 28 + i) = nI (D.2.2.2 i)) → (∀ p, p < to * 28 ∨ to * 28 + 28 ≤ p → a p = pa p) → J (nI (to + 1)) a (upd pb to (nI D.1)) (upd pc to (nI D.2.1)) (upd pd to D.2.2.1) pe pf pg) : ∃ n, wY_dropRule_37 post J (nI to) ya yb yc yd ye yf yg yh yi n 0 pa pb pc pd pe pf pg := by
  obtain ⟨d1, d2, d3, d4⟩ := hD
  have H : ∀ (n j : Nat) (a : Nat → Int32), 29 ≤ n + j → j ≤ 28 → (∀ i, i < j → a (to * 28 + i) = pa ((to + 1) * 28 + i)) → (∀ p, p < to * 28 ∨ to * 28 + 28 ≤ p → a p = pa p) →
      wY_dropRule_37 post J (nI to) ya yb yc yd ye yf yg yh yi n (nI j) a pb pc pd pe pf pg := by
    intro n
    induction n with
    | zero => intro j a b c; omega
    | succ n ih =>
      intro j a hn hj h1 h2
      have v1 : vp_in (nI to) 12 := vp_in_nI (by omega) (by decide)
      have v2 : vp_in (nI to + 1) 12 := by rw [nI_1]; exact vp_in_nI hto (by decide)
      have c2 : (nI to + 1).toNatClampNeg = to + 1 := by rw [nI_1, nI_clamp (by omega)]
      refine pk_le 28 j (fun h => ?_) (fun h => ⟨by rw [nI_1, tr_28]; exact vp_in_nI (by omega) (by decide), by rw [tr_28]; exact vp_in_nI (by omega) (by decide), ?_⟩)
      · rw [c2, nI_clamp (show to < 2 ^ 31 by omega), d1, d2, d3]
        refine ⟨v2, v1, nm_e ⟨v2, v1, nm_e ⟨v2, v1, nm_e (nm_r (nI_1 to) (k0 a (fun i hi => ?_) h2))⟩⟩⟩
        rw [h1 i (by omega)]
        exact d4 i hi
      · rw [nI_1, tr_28, tr_28, nI_clamp (by omega), nI_clamp (by omega), h2 _ (by omega)]
        refine nm_e (nm_r (nI_1 j) (ih (j + 1) _ (by omega) (by omega) (fun i hi => ?_) (fun p hp => ?_)))
        · by_cases z : i = j
          · subst z; exact pk_us
          · rw [pk_un (by omega)]; exact h1 i (by omega)
        · rw [pk_un (by omega)]; exact h2 p hp
  exact ⟨29, H 29 0 pa (by omega) (Nat.zero_le _) (fun i hi => absurd hi (Nat.not_lt_zero _)) (fun p _ => rfl)⟩
theorem tr_yDr {post : Int32 → SY → Prop} {R : Nat → TrD} {rc r : Nat} (hrc : rc < 12) (hr : r ≤ rc) (h28 : ∀ q, q < rc + 1 → (R q).1 + (R q).2.1 ≤ 28)
    (k0 : ∀ pa pb pc pd, (∀ q, q < rc → tr_yr pa pb pc pd q (tr_sh R r q)) → post 0 (ya, yb, nI rc, yd, ye, yf, yg, yh, yi, pa, pb, pc, pd, pe, pf, pg)) : ∀ (n to : Nat) (pa pb pc pd : Nat → Int32), rc + 1 ≤ n + to → r ≤ to → to ≤ rc → (∀ q, q < to → tr_yr pa pb pc pd q (tr_sh R r q)) → (∀ q, to ≤ q → q < rc + 1 → tr_yr pa pb pc pd q (R q)) →
    wY_dropRule_25 post ya yb (nI (rc + 1)) yd ye yf yg yh yi n (nI to) pa pb pc pd pe pf pg := by
  intro n
  induction n with
  | zero => intro to pa pb pc pd a b c; omega
  | succ n ih =>
    intro to pa pb pc pd hn hrt hto h1 h2
    refine pk_le (rc + 1) (to + 1) (fun h => nm_r (nI_pred rc) (k0 _ _ _ _ fun q hq => h1 q (by omega))) (fun h => ?_) (hy := nI_1 to)
    refine tr_yMv (D := R (to + 1)) (by omega) (h28 _ (by omega)) (h2 _ (by omega) (by omega)) (fun a ha hb => ?_)
    refine ih (to + 1) _ _ _ _ (by omega) (by omega) (by omega) (fun q hq => ?_) (fun q hq hq2 => ?_)
    · by_cases e : q = to
      · subst e
        rw [tr_sh_g (by omega)]
        exact ⟨pk_us, pk_us, pk_us, ha⟩
      · obtain ⟨x1, x2, x3, x4⟩ := h1 q (by omega)
        have h3 : (tr_sh R r q).1 + (tr_sh R r q).2.1 ≤ 28 := by
          unfold tr_sh
          split
          · exact h28 q (by omega)
          · exact h28 (q + 1) (by omega)
        exact ⟨by rw [pk_un e]; exact x1, by rw [pk_un e]; exact x2, by rw [pk_un e]; exact x3, fun i hi => by rw [hb _ (tr_row e h3 hi)]; exact x4 i hi⟩
    · have e : q ≠ to := by omega
      obtain ⟨x1, x2, x3, x4⟩ := h2 q (by omega) hq2
      exact ⟨by rw [pk_un e]; exact x1, by rw [pk_un e]; exact x2, by rw [pk_un e]; exact x3, fun i hi => by rw [hb _ (tr_row e (h28 q hq2) hi)]; exact x4 i hi⟩
theorem i_vc_dropRule {k : Nat} {u : SX} {v : SY} (I : i_Rel k u v) (hk : k + 3 ≤ 1538) (v1 : Int32) : wpX_dropRule (fun r u' => wpY_dropRule (fun r' v' => r' = r ∧ i_Rel (k + 3) u' v') v v1) u v1 := by
  have J := i_up I
  obtain ⟨RL, TL, rc, s, md, R, T, sc, xg, xh, xi, yg, yh, yi, qa, qb, qc, qd, qe, qf, qg, qh, qi, pa, pb, pc, pd, pe, pf, pg, rfl, rfl, h⟩ := I
  obtain ⟨b1, b2, b3, b4, b5, b6, b7⟩ := h.1
  by_cases h0 : md = 0
  · subst h0
    rcases pk_ix v1 (n := rc) (by omega) with z | z | ⟨r, hr, rfl⟩
    · exact br_t rfl (br_t z (br_t rfl (br_t z ⟨rfl, J⟩)))
    · have z0 := tr_ge0 (by omega) z
      have z1 : ¬ v1 < nI rc := Int32.not_lt.mpr z
      exact br_t rfl (br_f z0 (br_f z1 (br_t rfl (br_f z0 (br_f z1 ⟨rfl, J⟩)))))
    · obtain ⟨c, rfl⟩ : ∃ c, rc = c + 1 := ⟨rc - 1, by omega⟩
      have z0 : ¬ nI r < 0 := nI_pos (by omega)
      have z1 : nI r < nI (c + 1) := nI_lt hr (by omega)
      have h28 : ∀ q, q < c + 1 → (R q).1 + (R q).2.1 ≤ 28 := fun q hq => by
        have o := (h.2.1 q hq).1
        have o1 := o.1
        have o2 := o.2.1
        omega
      refine br_t rfl (br_f z0 (br_t z1 ⟨c + 2, tr_xDr (R := R) (r := r) (by omega) (by omega) h28 (fun qa2 qb2 qc2 qd2 hX => ?_) (c + 2) r qa qb qc qd (by omega) (Nat.le_refl _) (by omega) (fun q hq => ?_) (fun q _ hq => (h.2.1 q hq).2.1)⟩))
      · refine br_t rfl (br_f z0 (br_t z1 ⟨c + 2, tr_yDr (R := R) (r := r) (by omega) (by omega) h28 (fun pa2 pb2 pc2 pd2 hY => ⟨rfl, tr_mk (md := 0) (R := tr_sh R r) (T := T) ?_⟩) (c + 2) r pa pb pc pd (by omega) (Nat.le_refl _) (by omega) (fun q hq => ?_) (fun q _ hq => (h.2.1 q hq).2.2)⟩))
        · rw [tr_sh_l hq]
          exact (h.2.1 q (by omega)).2.2
        · refine ⟨⟨b1, b2, b3, b4, by omega, b6, b7⟩, fun q hq => ⟨?_, hX q hq, hY q hq⟩, h.2.2.1, Or.inl rfl⟩
          unfold tr_sh
          split
          · exact (h.2.1 q (by omega)).1
          · exact (h.2.1 (q + 1) (by omega)).1
      · rw [tr_sh_l hq]
        exact (h.2.1 q (by omega)).2.1
  · have h0' := nI_ne0 (n := md) (by omega) (by omega)
    exact br_f h0' (br_f h0' ⟨rfl, J⟩)
end TRL
end
