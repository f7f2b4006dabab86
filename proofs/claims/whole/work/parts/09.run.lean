section TRI
variable {xa xb xc xd xe xf xg xh xi ya yb yc yd ye yf yg yh yi : Int32} {qa qb qc qd qe qf qg qh qi pa pb pc pd pe pf pg : Nat → Int32}
/-! run: in lockstep; the reference carried as 'whatever it asks from here on, of every state that looks so, it asks at the start' -/
def tr_gx (R : Nat → TrD) (rc : Nat) (T : Nat → Nat) (s : Nat) (qa qb qc qd qe : Nat → Int32) : Prop := (∀ q, q < rc → tr_ok (R q) ∧ tr_xr qa qb qc qd q (R q)) ∧ tr_tm qe T s
def tr_gy (R : Nat → TrD) (rc : Nat) (T : Nat → Nat) (s : Nat) (pa pb pc pd pe : Nat → Int32) : Prop := (∀ q, q < rc → tr_ok (R q) ∧ tr_yr pa pb pc pd q (R q)) ∧ tr_tm pe T s
theorem tr_gi {RL TL rc s : Nat} {R : Nat → TrD} {T : Nat → Nat} (h1 : 1 ≤ RL) (h2 : RL ≤ 12) (h3 : 8 ≤ TL) (h4 : TL ≤ 64) (h5 : rc ≤ RL) (h6 : s ≤ TL) (gx : tr_gx R rc T s qa qb qc qd qe) (gy : tr_gy R rc T s pa pb pc pd pe) : tr_inv RL TL rc s 0 R T xg xh xi yg yh yi qa qb qc qd qe qf pa pb pc pd pe pf :=
  ⟨by omega, fun q hq => ⟨(gx.1 q hq).1, (gx.1 q hq).2, (gy.1 q hq).2⟩, ⟨gx.2.2.1, gy.2.2.1, gx.2.2.2⟩, Or.inl rfl⟩
theorem tr_gxl {rc s : Nat} {R : Nat → TrD} {T : Nat → Nat} (hrc : rc ≤ 12) (g : tr_gx R rc T s qa qb qc qd qe) : tr_rl qa qb R rc := ⟨hrc, fun q hq => ⟨(g.1 q hq).1, (g.1 q hq).2.1, (g.1 q hq).2.2.2.2⟩⟩
theorem tr_gyl {rc s : Nat} {R : Nat → TrD} {T : Nat → Nat} (hrc : rc ≤ 12) (g : tr_gy R rc T s pa pb pc pd pe) : tr_rl pa pb R rc := ⟨hrc, fun q hq => ⟨(g.1 q hq).1, (g.1 q hq).2.1, (g.1 q hq).2.2.2.2⟩⟩
/-- the rules after a step with r -/
def tr_R1 (R : Nat → TrD) (r : Nat) : Nat → TrD := fun q => if q = r then ((R r).1, (R r).2.1, (R r).2.2.1 + 1, (R r).2.2.2) else R q
theorem tr_R1_e {R : Nat → TrD} {r : Nat} : tr_R1 R r r = ((R r).1, (R r).2.1, (R r).2.2.1 + 1, (R r).2.2.2) := if_pos rfl
theorem tr_R1_n {R : Nat → TrD} {r q : Nat} (h : q ≠ r) : tr_R1 R r q = R q := if_neg h
theorem tr_gx1 {rc s r : Nat} {R : Nat → TrD} {T : Nat → Nat} {L : List Nat} (g : tr_gx R rc T s qa qb qc qd qe) (hL : L.length ≤ 64) (h16 : tr_16 L) {qe2 : Nat → Int32} (hh : tr_hl qe2 L) :
    tr_gx (tr_R1 R r) rc (fun q => L.getD q 0) L.length qa qb qc (upd qd r (qd r + 1)) qe2 := by
  refine ⟨fun q hq => ?_, hL, hh, fun j hj => tr_16_get h16 hj⟩
  obtain ⟨ok, a, b, c, d⟩ := g.1 q hq
  by_cases e : q = r
  · subst e
    rw [tr_R1_e]
    exact ⟨ok, a, b, by rw [pk_us, c], d⟩
  · rw [tr_R1_n e]
    exact ⟨ok, a, b, by rw [pk_un e]; exact c, d⟩
theorem tr_gy1 {rc s r : Nat} {R : Nat → TrD} {T : Nat → Nat} {L : List Nat} (g : tr_gy R rc T s pa pb pc pd pe) (hL : L.length ≤ 64) (h16 : tr_16 L) {pe2 : Nat → Int32} (hh : tr_hl pe2 L) :
    tr_gy (tr_R1 R r) rc (fun q => L.getD q 0) L.length pa pb pc (upd pd r (pd r + 1)) pe2 := by
  refine ⟨fun q hq => ?_, hL, hh, fun j hj => tr_16_get h16 hj⟩
  obtain ⟨ok, a, b, c, d⟩ := g.1 q hq
  by_cases e : q = r
  · subst e
    rw [tr_R1_e]
    exact ⟨ok, a, b, by rw [pk_us, c], d⟩
  · rw [tr_R1_n e]
    exact ⟨ok, a, b, by rw [pk_un e]; exact c, d⟩
theorem tr_run {k RL TL rc max : Nat} {Yp : Int32 → SX → Prop} (h1 : 1 ≤ RL) (h2 : RL ≤ 12) (h3 : 8 ≤ TL) (h4 : TL ≤ 64) (h5 : rc ≤ RL) (hm : max ≤ 64) : ∀ (d kk s : Nat) (R : Nat → TrD) (T : Nat → Nat) (sc : Int32), kk + d = max → s ≤ TL →
    (∀ (r : Int32) (u' : SX), (∀ pd pe pg, tr_gy R rc T s pa pb pc pd pe → ∀ n, d + 1 ≤ n → wY_run_41 (fun r' v' => r' = r ∧ i_Rel k u' v') (nI max) n (nI kk) (nI RL) (nI TL) (nI rc) (nI s) sc (nI 0) yg yh yi pa pb pc pd pe pf pg) → Yp r u') →
    ∀ qd qe qg qh qi, tr_gx R rc T s qa qb qc qd qe → ∀ n, d + 1 ≤ n → wX_run_28 Yp (nI max) n (nI kk) (nI RL) (nI TL) (nI rc) (nI s) sc (nI 0) xg xh xi qa qb qc qd qe qf qg qh qi := by
  intro d
  induction d with
  | zero =>
    intro kk s R T sc hd hs C qd qe qg qh qi gx n hn
    obtain ⟨m, rfl⟩ : ∃ m, n = m + 1 := ⟨n - 1, by omega⟩
    have hle : nI max ≤ nI kk := nI_le (by omega) (by omega)
    have hR := tr_gxl (by omega) gx
    refine br_t hle (tr_xN gx.2 hR ?_)
    cases hnx : tr_nx R rc T s with
    | none =>
      rw [tr_oi_n]
      refine br_f (show ¬ (0 : Int32) ≤ -1 by decide) (C _ _ fun pd pe pg gy n hn => ?_)
      obtain ⟨m, rfl⟩ : ∃ m, n = m + 1 := ⟨n - 1, by omega⟩
      refine br_t hle (tr_yN gy.2 (tr_gyl (by omega) gy) ?_)
      rw [hnx, tr_oi_n]
      exact br_f (show ¬ (0 : Int32) ≤ -1 by decide) ⟨rfl, tr_mk (md := 0) (tr_gi h1 h2 h3 h4 h5 hs gx gy)⟩
    | some i =>
      have hi := tr_fr_some _ _ hnx
      have hs64 := gx.2.1
      have h0 : (0 : Int32) ≤ nI i := nI_pos' (by omega)
      rw [tr_oi_s]
      refine br_t h0 (C _ _ fun pd pe pg gy n hn => ?_)
      obtain ⟨m, rfl⟩ : ∃ m, n = m + 1 := ⟨n - 1, by omega⟩
      refine br_t hle (tr_yN gy.2 (tr_gyl (by omega) gy) ?_)
      rw [hnx, tr_oi_s]
      exact br_t h0 ⟨rfl, tr_mk (md := 0) (tr_gi h1 h2 h3 h4 h5 hs gx gy)⟩
  | succ d ih =>
    intro kk s R T sc hd hs C qd qe qg qh qi gx n hn
    obtain ⟨m, rfl⟩ : ∃ m, n = m + 1 := ⟨n - 1, by omega⟩
    have hlt : ¬ nI max ≤ nI kk := nI_ge (by omega) (by omega)
    have hR := tr_gxl (by omega) gx
    have hs64 := gx.2.1
    refine br_f hlt (tr_xN gx.2 hR ?_)
    cases hnx : tr_nx R rc T s with
    | none =>
      rw [tr_oi_n]
      refine br_f (show ¬ (0 : Int32) ≤ -1 by decide) (C _ _ fun pd pe pg gy n hn => ?_)
      obtain ⟨m, rfl⟩ : ∃ m, n = m + 1 := ⟨n - 1, by omega⟩
      refine br_f hlt (tr_yN gy.2 (tr_gyl (by omega) gy) ?_)
      rw [hnx, tr_oi_n]
      exact br_f (show ¬ (0 : Int32) ≤ -1 by decide) ⟨rfl, tr_mk (md := 0) (tr_gi h1 h2 h3 h4 h5 hs gx gy)⟩
    | some i =>
      obtain ⟨-, hi, hin, -⟩ := tr_fr_some _ _ hnx
      rw [Nat.zero_add] at hi
      have h0 : (0 : Int32) ≤ nI i := nI_pos' (by omega)
      obtain ⟨r, hra⟩ : ∃ r, tr_ra R rc T s i = some r := by
        cases hx : tr_ra R rc T s i with
        | none => exact absurd hx hin.1
        | some r => exact ⟨r, rfl⟩
      have hr := tr_ra_lt hra
      have ok := (gx.1 r hr).1
      have hap := (tr_fr_some _ _ hra).2.2.1
      obtain ⟨B, hB⟩ := tr_B (T := T) (s := s) (i := i) ok.2.2.2.1 (R r).1 (Nat.le_refl _)
      have h16 : tr_16 (tr_L T (R r).2.2.2 B s i (R r).1 (R r).2.1) := by
        have hE := tr_E_le T (show i ≤ s by omega)
        refine tr_16_a (tr_16_a (tr_16_sg gx.2.2.2 _ (by omega)) (tr_ct_16 (rl := (R r).2.1) gx.2.2.2 (fun k hk h16 => ?_) _ (Nat.le_refl _))) (tr_16_sg gx.2.2.2 _ (by omega))
        obtain ⟨j, hj, e⟩ := ok.2.2.2.2 ((R r).1 + k) (by omega) (by omega) h16
        rw [← e] at h16 ⊢
        rw [hB j hj h16]
        exact (hap j hj).1
      rw [tr_oi_s]
      refine br_t h0 (tr_xW gx.2 h4 hR (fun q hq => (gx.1 q hq).2.2.1) hi hra hB (fun hle qe2 qg2 qh2 qi2 hh => br_f (by decide) (nm_r (nI_1 kk) ?_)) (fun hgt qh2 qi2 => br_t rfl (C _ _ fun pd pe pg gy n hn => ?_)))
      · refine ih (kk + 1) _ (tr_R1 R r) (fun q => (tr_L T (R r).2.2.2 B s i (R r).1 (R r).2.1).getD q 0) (sc + 1) (by omega) hle (fun r' u' H => C r' u' fun pd pe pg gy n hn => ?_) _ _ _ _ _ (tr_gx1 gx (by omega) h16 hh) m (by omega)
        obtain ⟨m, rfl⟩ : ∃ m, n = m + 1 := ⟨n - 1, by omega⟩
        refine br_f hlt (tr_yN gy.2 (tr_gyl (by omega) gy) ?_)
        rw [hnx, tr_oi_s]
        refine br_t h0 (tr_yR gy.2 (tr_gyl (by omega) gy) hi ?_)
        rw [hra, tr_oi_s]
        refine tr_yX gy.2 h4 (tr_gyl (by omega) gy) (fun q hq => (gy.1 q hq).2.2.1) hi hra hB (fun _ pe2 pg2 hh2 => br_f (by decide) (nm_e ⟨vp_in_nI (by omega) (by decide), vp_in_nI (by omega) (by decide), ?_⟩)) (fun z => absurd hle (by omega))
        rw [nI_clamp (show r < 2 ^ 31 by omega)]
        exact nm_e (nm_r (nI_1 kk) (H _ _ _ (tr_gy1 gy (by omega) h16 hh2) m (by omega)))
      · obtain ⟨m, rfl⟩ : ∃ m, n = m + 1 := ⟨n - 1, by omega⟩
        refine br_f hlt (tr_yN gy.2 (tr_gyl (by omega) gy) ?_)
        rw [hnx, tr_oi_s]
        refine br_t h0 (tr_yR gy.2 (tr_gyl (by omega) gy) hi ?_)
        rw [hra, tr_oi_s]
        exact tr_yX gy.2 h4 (tr_gyl (by omega) gy) (fun q hq => (gy.1 q hq).2.2.1) hi hra hB (fun z => absurd hgt (by omega)) (fun _ pg2 => br_t rfl ⟨rfl, tr_mk (md := 0) (tr_gi h1 h2 h3 h4 h5 hs gx gy)⟩)
theorem i_vc_run {k : Nat} {u : SX} {v : SY} (I : i_Rel k u v) (hk : k + 3 ≤ 1538) (v1 : Int32) : wpX_run (fun r u' => wpY_run (fun r' v' => r' = r ∧ i_Rel (k + 3) u' v') v v1) u v1 := by
  have J := i_up I
  obtain ⟨RL, TL, rc, s, md, R, T, sc, xg, xh, xi, yg, yh, yi, qa, qb, qc, qd, qe, qf, qg, qh, qi, pa, pb, pc, pd, pe, pf, pg, rfl, rfl, h⟩ := I
  obtain ⟨b1, b2, b3, b4, b5, b6, b7⟩ := h.1
  refine pk_eq md 0 (fun h0 => pk_eq s 0 (fun h1 => ?_) (fun h1 => ?_)) (fun h0 => ?_)
  · exact pk_eq md 0 (fun _ => pk_eq s 0 (fun _ => ⟨rfl, J⟩) (fun z => absurd h1 z)) (fun z => absurd h0 z)
  · subst h0
    have gx : tr_gx R rc T s qa qb qc qd qe := ⟨fun q hq => ⟨(h.2.1 q hq).1, (h.2.1 q hq).2.1⟩, (tr_ixt h).1⟩
    have gy : tr_gy R rc T s pa pb pc pd pe := ⟨fun q hq => ⟨(h.2.1 q hq).1, (h.2.1 q hq).2.2⟩, (tr_ixt h).2⟩
    obtain ⟨mx, m1, m2, m3⟩ := tr_clamp v1 0 64 (by decide) (by decide)
    refine tr_xcl (a := 0) (b := 64) m3 ⟨mx + 1, tr_run (k := k + 3) (yg := yg) (yh := yh) (yi := yi) (pa := pa) (pb := pb) (pc := pc) (pf := pf) b1 b2 b3 b4 b5 m2 mx 0 s R T sc (by omega) b6 (fun r u' H => ?_) qd qe qg qh qi gx (mx + 1) (Nat.le_refl _)⟩
    refine pk_eq 0 0 (fun _ => pk_eq s 0 (fun z => absurd z h1) (fun _ => ?_)) (fun z => absurd rfl z)
    have H2 := H pd pe pg gy (mx + 1) (Nat.le_refl _)
    rcases m3 with ⟨a, rfl⟩ | ⟨a, b, rfl⟩ | ⟨a, b, e⟩
    · exact br_f a ⟨_, H2⟩
    · exact br_t a (br_f b ⟨_, H2⟩)
    · refine br_t a (br_t b ?_)
      rw [e]
      exact ⟨_, H2⟩
  · exact pk_eq md 0 (fun z => absurd z h0) (fun _ => ⟨rfl, J⟩)
end TRI
