/-! SD 15: the calls that write -/
def sd_bt (lo hi : Nat) (v : Int32) : Prop := ∃ r : Nat, lo ≤ r ∧ r ≤ hi ∧ v = nI r
theorem sd_bt_i {lo hi : Nat} {v : Int32} (h : hi < 2 ^ 31) (hl : lo < 2 ^ 31) : sd_bt lo hi v ↔ nI lo ≤ v ∧ v ≤ nI hi := by
  constructor
  · rintro ⟨r, h1, h2, rfl⟩
    exact ⟨nI_le h1 (by omega), nI_le h2 h⟩
  · rintro ⟨h1, h2⟩
    have h0 : ¬ v < 0 := Int32.not_lt.mpr (Int32.le_trans (nI_pos' hl) h1)
    obtain ⟨j, hj, rfl⟩ := nI_of h0
    exact ⟨j, (nI_leI hl hj).mp h1, (nI_leI hj h).mp h2, rfl⟩
theorem sx_wb {post : Int32 → Prop} {v : Int32} (lo hi : Nat) (h : hi < 2 ^ 31) (hl : lo < 2 ^ 31) (h1 : sd_bt lo hi v → post 1) (h0 : ¬ sd_bt lo hi v → post 0) : wpX_within post v (nI lo) (nI hi) :=
  sx_w (fun a b => h1 ((sd_bt_i h hl).mpr ⟨a, b⟩)) (fun z => h0 (fun y => z ((sd_bt_i h hl).mp y)))
theorem sy_wb {A B : Prop} {v : Int32} (lo hi : Nat) (h : hi < 2 ^ 31) (hl : lo < 2 ^ 31) (h1 : sd_bt lo hi v → A) (h0 : ¬ sd_bt lo hi v → B) : (v < nI lo → B) ∧ (¬ v < nI lo → ((nI hi < v → B) ∧ (¬ nI hi < v → A))) :=
  ⟨fun a => h0 (fun z => Int32.not_lt.mpr ((sd_bt_i h hl).mp z).1 a), fun a => ⟨fun b => h0 (fun z => Int32.not_lt.mpr ((sd_bt_i h hl).mp z).2 b), fun b => h1 ((sd_bt_i h hl).mpr ⟨Int32.not_lt.mp a, Int32.not_lt.mp b⟩)⟩⟩
theorem sy_wb2 {A B : Prop} {v : Int32} (lo hi : Nat) (h : hi < 2 ^ 31) (hl : lo < 2 ^ 31) (h1 : sd_bt lo hi v → A) (h0 : ¬ sd_bt lo hi v → B) : (v < nI lo → B) ∧ (¬ v < nI lo → ((v ≤ nI hi → A) ∧ (¬ v ≤ nI hi → B))) :=
  ⟨fun a => h0 (fun z => Int32.not_lt.mpr ((sd_bt_i h hl).mp z).1 a), fun a => ⟨fun b => h1 ((sd_bt_i h hl).mpr ⟨Int32.not_lt.mp a, b⟩), fun b => h0 (fun z => b ((sd_bt_i h hl).mp z).2)⟩⟩
section SDC15
variable {len ss ft bt dn lw od nc li la fe : Int32} {oo dd aa bb rg wd uc lt rc ls rw rr uw br st nu kd tg fs sc bk is rd ac ry wr un pk : Nat → Int32}
theorem sy_77 {post : Int32 → SY → Prop} {n : Nat} {d a b : Int32} (hn : n ≤ 10) (h1 : (n = 8 ∨ n = 9 → sd_lt 24 b) → wY_add_101 post (nI n) d a b len ss ft bt fe dn oo dd aa bb rg wd uc lt nu kd tg fs sc bk is rd ac ry wr un pk ls) (h0 : ¬ (n = 8 ∨ n = 9 → sd_lt 24 b) → post (-1) (len, ss, ft, bt, fe, dn, oo, dd, aa, bb, rg, wd, uc, lt, nu, kd, tg, fs, sc, bk, is, rd, ac, ry, wr, un, pk, ls)) : wY_add_77 post (nI n) d a b len ss ft bt fe dn oo dd aa bb rg wd uc lt nu kd tg fs sc bk is rd ac ry wr un pk ls := by
  have k89 : (n = 8 ∨ n = 9) → wY_add_89 post (nI n) d a b len ss ft bt fe dn oo dd aa bb rg wd uc lt nu kd tg fs sc bk is rd ac ry wr un pk ls := by
    intro g
    unfold wY_add_89
    exact sy_w 24 (by omega) (fun z => br_f (by decide) (h1 (fun _ => z))) (fun z => br_t rfl (h0 (fun y => z (y g))))
  exact pk_eq n 8 (fun e => k89 (Or.inl e)) (fun e => pk_eq n 9 (fun e2 => k89 (Or.inr e2)) (fun e2 => h1 (fun z => absurd z (by omega))))
theorem sy_62a {post : Int32 → SY → Prop} {n : Nat} {d a b z : Int32} (hn : n ≤ 10) (hz : (0 < n ∧ n < 6 ∧ z = 1) ∨ (¬ (0 < n ∧ n < 6) ∧ z = 0)) (h1 : (0 < n → n < 6 → sd_lt 8 b) → (n = 8 ∨ n = 9 → sd_lt 24 b) → wY_add_101 post (nI n) d a b len ss ft bt fe dn oo dd aa bb rg wd uc lt nu kd tg fs sc bk is rd ac ry wr un pk ls) (h0 : ¬ ((0 < n → n < 6 → sd_lt 8 b) ∧ (n = 8 ∨ n = 9 → sd_lt 24 b)) → post (-1) (len, ss, ft, bt, fe, dn, oo, dd, aa, bb, rg, wd, uc, lt, nu, kd, tg, fs, sc, bk, is, rd, ac, ry, wr, un, pk, ls)) : wY_add_62 post (nI n) d a b z len ss ft bt fe dn oo dd aa bb rg wd uc lt nu kd tg fs sc bk is rd ac ry wr un pk ls := by
  rcases hz with ⟨g1, g2, rfl⟩ | ⟨g, rfl⟩
  · refine br_f (by decide) ?_
    exact sy_w 8 (by omega) (fun z => br_f (by decide) (sy_77 hn (fun y => h1 (fun _ _ => z) y) (fun y => h0 (fun x => y x.2)))) (fun z => br_t rfl (h0 (fun y => z (y.1 g1 g2))))
  · exact br_t rfl (sy_77 hn (fun y => h1 (fun u v => absurd ⟨u, v⟩ g) y) (fun y => h0 (fun x => y x.2)))
theorem sy_43 {post : Int32 → SY → Prop} {n : Nat} {d a b z : Int32} (hn : n ≤ 10) (hz : (0 < n ∧ n < 6 ∧ z = 1) ∨ (¬ (0 < n ∧ n < 6) ∧ z = 0)) (h1 : (0 < n → n < 9 → sd_lt 8 a) → (0 < n → n < 6 → sd_lt 8 b) → (n = 8 ∨ n = 9 → sd_lt 24 b) → wY_add_101 post (nI n) d a b len ss ft bt fe dn oo dd aa bb rg wd uc lt nu kd tg fs sc bk is rd ac ry wr un pk ls) (h0 : ¬ ((0 < n → n < 9 → sd_lt 8 a) ∧ (0 < n → n < 6 → sd_lt 8 b) ∧ (n = 8 ∨ n = 9 → sd_lt 24 b)) → post (-1) (len, ss, ft, bt, fe, dn, oo, dd, aa, bb, rg, wd, uc, lt, nu, kd, tg, fs, sc, bk, is, rd, ac, ry, wr, un, pk, ls)) : wY_add_43 post (nI n) d a b z len ss ft bt fe dn oo dd aa bb rg wd uc lt nu kd tg fs sc bk is rd ac ry wr un pk ls := by
  have k62 : (0 < n → n < 9 → sd_lt 8 a) → wY_add_62 post (nI n) d a b z len ss ft bt fe dn oo dd aa bb rg wd uc lt nu kd tg fs sc bk is rd ac ry wr un pk ls := fun g => sy_62a hn hz (h1 g) (fun y => h0 (fun x => y x.2))
  refine pk_le n 0 (fun e => k62 (fun u => absurd u (by omega))) (fun e => pk_le 9 n (fun e2 => k62 (fun _ u => absurd u (by omega))) (fun e2 => ?_))
  exact sy_w 8 (by omega) (fun z => br_f (by decide) (k62 (fun _ _ => z))) (fun z => br_t rfl (h0 (fun y => z (y.1 (by omega) (by omega)))))
theorem sy_26 {post : Int32 → SY → Prop} {n : Nat} {d a b z : Int32} (hn : n ≤ 10) (hz : (0 < n ∧ n < 6 ∧ z = 1) ∨ (¬ (0 < n ∧ n < 6) ∧ z = 0)) (h1 : sd_wf (nI n) d a b → wY_add_101 post (nI n) d a b len ss ft bt fe dn oo dd aa bb rg wd uc lt nu kd tg fs sc bk is rd ac ry wr un pk ls) (h0 : ¬ sd_wf (nI n) d a b → post (-1) (len, ss, ft, bt, fe, dn, oo, dd, aa, bb, rg, wd, uc, lt, nu, kd, tg, fs, sc, bk, is, rd, ac, ry, wr, un, pk, ls)) : wY_add_26 post (nI n) d a b z len ss ft bt fe dn oo dd aa bb rg wd uc lt nu kd tg fs sc bk is rd ac ry wr un pk ls := by
  rw [sd_wf_n (by omega)] at h1 h0
  have k43 : (n < 8 → sd_lt 8 d) → wY_add_43 post (nI n) d a b z len ss ft bt fe dn oo dd aa bb rg wd uc lt nu kd tg fs sc bk is rd ac ry wr un pk ls := fun g => sy_43 hn hz (fun x y z => h1 ⟨hn, g, x, y, z⟩) (fun y => h0 (fun x => y x.2.2))
  refine pk_le 8 n (fun e => k43 (fun u => absurd u (by omega))) (fun e => ?_)
  exact sy_w 8 (by omega) (fun z => br_f (by decide) (k43 (fun _ => z))) (fun z => br_t rfl (h0 (fun y => z (y.2.1 (by omega)))))
theorem sy_add {post : Int32 → SY → Prop} {op d a b : Int32} (h1 : sd_wf op d a b → wY_add_101 post op d a b len ss ft bt fe dn oo dd aa bb rg wd uc lt nu kd tg fs sc bk is rd ac ry wr un pk ls) (h0 : ¬ sd_wf op d a b → post (-1) (len, ss, ft, bt, fe, dn, oo, dd, aa, bb, rg, wd, uc, lt, nu, kd, tg, fs, sc, bk, is, rd, ac, ry, wr, un, pk, ls)) : wpY_add post (len, ss, ft, bt, fe, dn, oo, dd, aa, bb, rg, wd, uc, lt, nu, kd, tg, fs, sc, bk, is, rd, ac, ry, wr, un, pk, ls) op d a b := by
  unfold wpY_add
  dsimp only
  refine sy_w 11 (by omega) (fun g => br_f (by decide) ?_) (fun g => br_t rfl (h0 (fun z => g (sd_wf_r z))))
  obtain ⟨n, hn, rfl⟩ := g
  refine pk_le n 0 (fun e => ?_) (fun e => pk_le 6 n (fun e2 => ?_) (fun e2 => ?_))
  · unfold wY_add_25
    exact sy_26 (by omega) (Or.inr ⟨by omega, rfl⟩) h1 h0
  · unfold wY_add_25
    exact sy_26 (by omega) (Or.inr ⟨by omega, rfl⟩) h1 h0
  · exact sy_26 (by omega) (Or.inl ⟨by omega, by omega, rfl⟩) h1 h0
theorem sd_C_add {L S F t : Nat} {op d a b : Int32} (C : sd_C L S F t oo dd aa bb uc lt) (hL : L < 24) (h : sd_wf op d a b) : sd_C (L + 1) S F t (upd oo L op) (upd dd L d) (upd aa L a) (upd bb L b) uc lt := by
  refine ⟨by omega, fun i hi => ?_, C.2.2⟩
  by_cases e : i = L
  · subst e
    rw [pk_us, pk_us, pk_us, pk_us]
    exact h
  · rw [pk_un e, pk_un e, pk_un e, pk_un e]
    exact C.2.1 i (by omega)
theorem sd_mk {n L S F t k : Nat} (C : sd_C L S F t oo dd aa bb uc lt) (hk : k ≤ 60) (ok : sd_ok wr k 2000) (R : sd_rec k rc nu is rd ry wr un kd) : i_Rel n (nI L, nI S, nI F, nI t, nI k, nI (sd_LW wr k), od, nc, li, la, oo, dd, aa, bb, rg, wd, uc, lt, rc, ls, rw, rr, uw, br, st) (nI L, nI S, nI F, nI t, fe, nI k, oo, dd, aa, bb, rg, wd, uc, lt, nu, kd, tg, fs, sc, bk, is, rd, ac, ry, wr, un, pk, ls) :=
  ⟨L, S, F, t, k, od, nc, li, la, fe, oo, dd, aa, bb, rg, wd, uc, lt, rc, ls, rw, rr, uw, br, st, nu, kd, tg, fs, sc, bk, is, rd, ac, ry, wr, un, pk, rfl, rfl, C, hk, ok, R⟩
end SDC15
theorem i_vc_add {k : Nat} {u : SX} {v : SY} (I : i_Rel k u v) (hk : k + 5 ≤ 2560) (v1 : Int32) (v2 : Int32) (v3 : Int32) (v4 : Int32) : wpX_add (fun r u' => wpY_add (fun r' v' => r' = r ∧ i_Rel (k + 5) u' v') v v1 v2 v3 v4) u v1 v2 v3 v4 := by
  obtain ⟨L, S, F, t, k0, od, nc, li, la, fe, oo, dd, aa, bb, rg, wd, uc, lt, rc, ls, rw, rr, uw, br, st, nu, kd, tg, fs, sc, bk, is, rd, ac, ry, wr, un, pk, rfl, rfl, C, hk0, ok, R⟩ := I
  have hL := C.1
  have cL : (nI L).toNatClampNeg = L := nI_clamp (by omega)
  unfold wpX_add
  dsimp only
  refine sx_wellF (fun g => br_f (by decide) ?_) (fun g => br_t rfl (sy_add (fun z => absurd z g) (fun _ => ⟨rfl, sd_mk C hk0 ok R⟩)))
  refine pk_lt L 24 (fun e => ?_) (fun e => ?_)
  · have w : vp_in (nI L) 24 := vp_in_nI e (by omega)
    refine ⟨w, nm_r (congrArg (fun z => upd oo z v1) cL) ⟨w, nm_r (congrArg (fun z => upd dd z v2) cL) ⟨w, nm_r (congrArg (fun z => upd aa z v3) cL) ⟨w, nm_r (congrArg (fun z => upd bb z v4) cL) (nm_r (nI_1 L) ?_)⟩⟩⟩⟩
    refine sy_add (fun _ => ?_) (fun z => absurd g z)
    refine pk_eq L 24 (fun e2 => absurd e2 (by omega)) (fun _ => ⟨w, nm_r (congrArg (fun z => upd oo z v1) cL) ⟨w, nm_r (congrArg (fun z => upd dd z v2) cL) ⟨w, nm_r (congrArg (fun z => upd aa z v3) cL) ⟨w, nm_r (congrArg (fun z => upd bb z v4) cL) (nm_r (nI_1 L) ?_)⟩⟩⟩⟩)
    exact ⟨rfl, sd_mk (sd_C_add C e g) hk0 ok R⟩
  · refine sy_add (fun _ => ?_) (fun z => absurd g z)
    exact pk_eq L 24 (fun _ => ⟨rfl, sd_mk C hk0 ok R⟩) (fun e2 => absurd e2 (by omega))
theorem i_vc_clear {k : Nat} {u : SX} {v : SY} (I : i_Rel k u v) (hk : k + 5 ≤ 2560) : wpX_clear (fun r u' => wpY_clear (fun r' v' => r' = r ∧ i_Rel (k + 5) u' v') v) u := by
  obtain ⟨L, S, F, t, k0, od, nc, li, la, fe, oo, dd, aa, bb, rg, wd, uc, lt, rc, ls, rw, rr, uw, br, st, nu, kd, tg, fs, sc, bk, is, rd, ac, ry, wr, un, pk, rfl, rfl, C, hk0, ok, R⟩ := I
  exact ⟨rfl, sd_mk (L := 0) ⟨by omega, fun i hi => absurd hi (Nat.not_lt_zero i), C.2.2⟩ hk0 ok R⟩
theorem i_vc_units {k : Nat} {u : SX} {v : SY} (I : i_Rel k u v) (hk : k + 5 ≤ 2560) (v1 : Int32) (v2 : Int32) (v3 : Int32) : wpX_units (fun r u' => wpY_units (fun r' v' => r' = r ∧ i_Rel (k + 5) u' v') v v1 v2 v3) u v1 v2 v3 := by
  obtain ⟨L, S, F, t, k0, od, nc, li, la, fe, oo, dd, aa, bb, rg, wd, uc, lt, rc, ls, rw, rr, uw, br, st, nu, kd, tg, fs, sc, bk, is, rd, ac, ry, wr, un, pk, rfl, rfl, C, hk0, ok, R⟩ := I
  have fin : ∀ Q : Prop, (sd_lt 6 v1 → sd_bt 1 3 v2 → sd_bt 1 8 v3 → Q) → wpY_units (fun r' v' => (r' = 0 ∧ i_Rel (k + 5) (nI L, nI S, nI F, nI t, nI k0, nI (sd_LW wr k0), od, nc, li, la, oo, dd, aa, bb, rg, wd, uc, lt, rc, ls, rw, rr, uw, br, st) v') ∨ Q) (nI L, nI S, nI F, nI t, fe, nI k0, oo, dd, aa, bb, rg, wd, uc, lt, nu, kd, tg, fs, sc, bk, is, rd, ac, ry, wr, un, pk, ls) v1 v2 v3 := by
    intro Q q
    unfold wpY_units
    dsimp only
    have B : ((0 : Int32) = 0 ∧ i_Rel (k + 5) (nI L, nI S, nI F, nI t, nI k0, nI (sd_LW wr k0), od, nc, li, la, oo, dd, aa, bb, rg, wd, uc, lt, rc, ls, rw, rr, uw, br, st) (nI L, nI S, nI F, nI t, fe, nI k0, oo, dd, aa, bb, rg, wd, uc, lt, nu, kd, tg, fs, sc, bk, is, rd, ac, ry, wr, un, pk, ls)) ∨ Q := Or.inl ⟨rfl, sd_mk C hk0 ok R⟩
    refine sy_w 6 (by omega) (fun g1 => br_f (by decide) (sy_wb 1 3 (by omega) (by omega) (fun g2 => sy_wb2 1 8 (by omega) (by omega) (fun g3 => ?_) (fun _ => B)) (fun _ => B))) (fun _ => br_t rfl B)
    have w : vp_in v1 6 := by
      obtain ⟨q, hq, rfl⟩ := g1
      exact vp_in_nI hq (by omega)
    exact ⟨w, nm_e ⟨w, nm_e (Or.inr (q g1 g2 g3))⟩⟩
  unfold wpX_units
  dsimp only
  have no : ¬ (sd_lt 6 v1 ∧ sd_bt 1 3 v2 ∧ sd_bt 1 8 v3) → wpY_units (fun r' v' => r' = 0 ∧ i_Rel (k + 5) (nI L, nI S, nI F, nI t, nI k0, nI (sd_LW wr k0), od, nc, li, la, oo, dd, aa, bb, rg, wd, uc, lt, rc, ls, rw, rr, uw, br, st) v') (nI L, nI S, nI F, nI t, fe, nI k0, oo, dd, aa, bb, rg, wd, uc, lt, nu, kd, tg, fs, sc, bk, is, rd, ac, ry, wr, un, pk, ls) v1 v2 v3 := by
    intro g
    have h := fin False (fun a b c => g ⟨a, b, c⟩)
    simp only [or_false] at h
    exact h
  refine sx_w0 5 (by omega) (fun g1 => br_f (by decide) ?_) (fun g => br_t rfl (no (fun z => g z.1)))
  refine sx_wb 1 3 (by omega) (by omega) (fun g2 => br_f (by decide) ?_) (fun g => br_t rfl (no (fun z => g z.2.1)))
  refine sx_wb 1 8 (by omega) (by omega) (fun g3 => br_f (by decide) ?_) (fun g => br_t rfl (no (fun z => g z.2.2)))
  obtain ⟨q, hq, rfl⟩ := g1
  have cq : (nI q).toNatClampNeg = q := nI_clamp (by omega)
  refine sx_equip hq ?_
  dsimp only
  unfold wpY_units
  dsimp only
  have w : vp_in (nI q) 6 := vp_in_nI hq (by omega)
  refine sy_w 6 (by omega) (fun _ => br_f (by decide) (sy_wb 1 3 (by omega) (by omega) (fun _ => sy_wb2 1 8 (by omega) (by omega) (fun _ => ?_) (fun z => absurd g3 z)) (fun z => absurd g2 z))) (fun z => absurd ⟨q, hq, rfl⟩ z)
  refine ⟨w, nm_r (congrArg (fun z => upd uc z v2) cq) ⟨w, nm_r (congrArg (fun z => upd lt z v3) cq) ⟨rfl, sd_mk ⟨C.1, C.2.1, fun q' hq' => ?_, C.2.2.2⟩ hk0 ok R⟩⟩⟩
  by_cases e : q' = q
  · subst e
    rw [pk_us, pk_us]
    obtain ⟨m, m1, m2, rfl⟩ := g2
    obtain ⟨l, l1, l2, rfl⟩ := g3
    exact ⟨⟨m - 1, by omega, congrArg nI (by omega)⟩, l, l1, l2, rfl⟩
  · rw [pk_un e, pk_un e]
    exact C.2.2.1 q' hq'
