/-! SD 12: the relation, and run -/
def sd_C (L S F t : Nat) (oo dd aa bb uc lt : Nat → Int32) : Prop := L ≤ 24 ∧ (∀ i, i < L → sd_wf (oo i) (dd i) (aa i) (bb i)) ∧ (∀ q, q < 6 → (∃ m : Nat, m < 3 ∧ uc q = nI (m + 1)) ∧ ∃ l : Nat, 1 ≤ l ∧ l ≤ 8 ∧ lt q = nI l) ∧ 1 ≤ S ∧ S ≤ 4 ∧ F ≤ 6 ∧ 1 ≤ t ∧ t ≤ 8
/-- program, registers, words, units, settings and losses are the same; the records are Y's cells; the scoreboard is free between two runs -/
def i_Rel (_ : Nat) (u : SX) (v : SY) : Prop := ∃ (L S F t k : Nat) (od nc li la fe : Int32) (oo dd aa bb rg wd uc lt rc ls rw rr uw br st nu kd tg fs sc bk is rd ac ry wr un pk : Nat → Int32), u = (nI L, nI S, nI F, nI t, nI k, nI (sd_LW wr k), od, nc, li, la, oo, dd, aa, bb, rg, wd, uc, lt, rc, ls, rw, rr, uw, br, st) ∧ v = (nI L, nI S, nI F, nI t, fe, nI k, oo, dd, aa, bb, rg, wd, uc, lt, nu, kd, tg, fs, sc, bk, is, rd, ac, ry, wr, un, pk, ls) ∧ sd_C L S F t oo dd aa bb uc lt ∧ k ≤ 60 ∧ sd_ok wr k 2000 ∧ sd_rec k rc nu is rd ry wr un kd
theorem i_up {k : Nat} {u : SX} {v : SY} (h : i_Rel k u v) : i_Rel (k + 5) u v := h
def sd_z (i : Nat) (c : Int32) (a : Nat → Int32) : Nat → Int32 := fun j => if j < i then c else a j
theorem sd_z_0 {c : Int32} {a : Nat → Int32} : sd_z 0 c a = a := by
  funext j
  exact if_neg (Nat.not_lt_zero j)
theorem sd_z_s {i : Nat} {c : Int32} {a : Nat → Int32} : upd (sd_z i c a) i c = sd_z (i + 1) c a := by
  funext j
  unfold upd sd_z
  by_cases e : j = i
  · rw [if_pos e, if_pos (by omega)]
  · rw [if_neg e]
    by_cases g : j < i
    · rw [if_pos g, if_pos (by omega)]
    · rw [if_neg g, if_neg (by omega)]
theorem sd_z_at {i j : Nat} {c : Int32} {a : Nat → Int32} (h : j < i) : sd_z i c a j = c := if_pos h
section SDR12
variable {len ss ft bt dn lw od nc li la fe : Int32} {oo dd aa bb rg wd uc lt rc ls rw rr uw br st nu kd tg fs sc bk is rd ac ry wr un pk : Nat → Int32}
theorem sx_b91 {post : SX → Prop} (h : post (len, ss, ft, bt, 0, 0, 0, 1, 0, 0, oo, dd, aa, bb, rg, wd, uc, lt, rc, sd_z 7 0 ls, rw, rr, uw, br, st)) : ∀ d i, i + d = 7 → wX_beginRun_91 post len ss ft bt dn lw od nc li la (d + 1) (nI i) oo dd aa bb rg wd uc lt rc (sd_z i 0 ls) rw rr uw br st := by
  intro d
  induction d with
  | zero =>
    intro i hi
    have e : i = 7 := by omega
    subst e
    rw [wX_beginRun_91]
    exact br_t (by decide) h
  | succ d ih =>
    intro i hi
    have c : (nI i).toNatClampNeg = i := nI_clamp (by omega)
    rw [wX_beginRun_91]
    exact br_f (nI_ge (b := 7) (by omega) (by omega)) ⟨vp_in_nI (by omega) (by omega), nm_r (e' := sd_z (i + 1) 0 ls) (by rw [c, sd_z_s]) (nm_r (nI_1 i) (ih (i + 1) (by omega)))⟩
theorem sx_b71 {post : SX → Prop} (h : post (len, ss, ft, bt, 0, 0, 0, 1, 0, 0, oo, dd, aa, bb, rg, wd, uc, lt, rc, sd_z 7 0 ls, rw, rr, uw, br, sd_z 4 (-1) st)) : ∀ d i, i + d = 4 → wX_beginRun_71 post len ss ft bt dn lw od nc li la (d + 1) (nI i) oo dd aa bb rg wd uc lt rc ls rw rr uw br (sd_z i (-1) st) := by
  intro d
  induction d with
  | zero =>
    intro i hi
    have e : i = 4 := by omega
    subst e
    have t := sx_b91 (dn := dn) (lw := lw) (od := od) (nc := nc) (li := li) (la := la) h 7 0 rfl
    rw [sd_z_0] at t
    rw [wX_beginRun_71]
    exact br_t (by decide) ⟨8, t⟩
  | succ d ih =>
    intro i hi
    have c : (nI i).toNatClampNeg = i := nI_clamp (by omega)
    rw [wX_beginRun_71]
    exact br_f (nI_ge (b := 4) (by omega) (by omega)) ⟨vp_in_nI (by omega) (by omega), nm_r (e' := sd_z (i + 1) (-1) st) (by rw [c, sd_z_s]) (nm_r (nI_1 i) (ih (i + 1) (by omega)))⟩
theorem sx_b51 {post : SX → Prop} (h : post (len, ss, ft, bt, 0, 0, 0, 1, 0, 0, oo, dd, aa, bb, rg, wd, uc, lt, rc, sd_z 7 0 ls, rw, rr, uw, sd_z 4 0 br, sd_z 4 (-1) st)) : ∀ d i, i + d = 4 → wX_beginRun_51 post len ss ft bt dn lw od nc li la (d + 1) (nI i) oo dd aa bb rg wd uc lt rc ls rw rr uw (sd_z i 0 br) st := by
  intro d
  induction d with
  | zero =>
    intro i hi
    have e : i = 4 := by omega
    subst e
    have t := sx_b71 (dn := dn) (lw := lw) (od := od) (nc := nc) (li := li) (la := la) h 4 0 rfl
    rw [sd_z_0] at t
    rw [wX_beginRun_51]
    exact br_t (by decide) ⟨5, t⟩
  | succ d ih =>
    intro i hi
    have c : (nI i).toNatClampNeg = i := nI_clamp (by omega)
    rw [wX_beginRun_51]
    exact br_f (nI_ge (b := 4) (by omega) (by omega)) ⟨vp_in_nI (by omega) (by omega), nm_r (e' := sd_z (i + 1) 0 br) (by rw [c, sd_z_s]) (nm_r (nI_1 i) (ih (i + 1) (by omega)))⟩
theorem sx_b30 {post : SX → Prop} (h : post (len, ss, ft, bt, 0, 0, 0, 1, 0, 0, oo, dd, aa, bb, rg, wd, uc, lt, rc, sd_z 7 0 ls, rw, rr, sd_z 18 0 uw, sd_z 4 0 br, sd_z 4 (-1) st)) : ∀ d i, i + d = 18 → wX_beginRun_30 post len ss ft bt dn lw od nc li la (d + 1) (nI i) oo dd aa bb rg wd uc lt rc ls rw rr (sd_z i 0 uw) br st := by
  intro d
  induction d with
  | zero =>
    intro i hi
    have e : i = 18 := by omega
    subst e
    have t := sx_b51 (dn := dn) (lw := lw) (od := od) (nc := nc) (li := li) (la := la) h 4 0 rfl
    rw [sd_z_0] at t
    rw [wX_beginRun_30]
    exact br_t (by decide) ⟨5, t⟩
  | succ d ih =>
    intro i hi
    have c : (nI i).toNatClampNeg = i := nI_clamp (by omega)
    rw [wX_beginRun_30]
    exact br_f (nI_ge (b := 18) (by omega) (by omega)) ⟨vp_in_nI (by omega) (by omega), nm_r (e' := sd_z (i + 1) 0 uw) (by rw [c, sd_z_s]) (nm_r (nI_1 i) (ih (i + 1) (by omega)))⟩
theorem sx_b2 {post : SX → Prop} (h : post (len, ss, ft, bt, 0, 0, 0, 1, 0, 0, oo, dd, aa, bb, rg, wd, uc, lt, rc, sd_z 7 0 ls, sd_z 8 0 rw, sd_z 8 0 rr, sd_z 18 0 uw, sd_z 4 0 br, sd_z 4 (-1) st)) : ∀ d i, i + d = 8 → wX_beginRun_2 post len ss ft bt dn lw od nc li la (d + 1) (nI i) oo dd aa bb rg wd uc lt rc ls (sd_z i 0 rw) (sd_z i 0 rr) uw br st := by
  intro d
  induction d with
  | zero =>
    intro i hi
    have e : i = 8 := by omega
    subst e
    have t := sx_b30 (dn := dn) (lw := lw) (od := od) (nc := nc) (li := li) (la := la) h 18 0 rfl
    rw [sd_z_0] at t
    rw [wX_beginRun_2]
    exact br_t (by decide) ⟨19, t⟩
  | succ d ih =>
    intro i hi
    have c : (nI i).toNatClampNeg = i := nI_clamp (by omega)
    rw [wX_beginRun_2]
    exact br_f (nI_ge (b := 8) (by omega) (by omega)) ⟨vp_in_nI (by omega) (by omega), nm_r (e' := sd_z (i + 1) 0 rw) (by rw [c, sd_z_s]) ⟨vp_in_nI (by omega) (by omega), nm_r (e' := sd_z (i + 1) 0 rr) (by rw [c, sd_z_s]) (nm_r (nI_1 i) (ih (i + 1) (by omega)))⟩⟩
theorem sx_begin {post : SX → Prop} (h : post (len, ss, ft, bt, 0, 0, 0, 1, 0, 0, oo, dd, aa, bb, rg, wd, uc, lt, rc, sd_z 7 0 ls, sd_z 8 0 rw, sd_z 8 0 rr, sd_z 18 0 uw, sd_z 4 0 br, sd_z 4 (-1) st)) : wpX_beginRun post (len, ss, ft, bt, dn, lw, od, nc, li, la, oo, dd, aa, bb, rg, wd, uc, lt, rc, ls, rw, rr, uw, br, st) := by
  have t := sx_b2 (dn := dn) (lw := lw) (od := od) (nc := nc) (li := li) (la := la) h 8 0 rfl
  rw [sd_z_0, sd_z_0] at t
  exact ⟨9, t⟩
theorem sy_r14 {post : Int32 → SY → Prop} {x1 : Int32} (h : ∃ n, wY_run_33 post n x1 len ss ft bt fe dn oo dd aa bb rg wd uc lt nu kd tg fs sc bk is rd ac ry wr un pk (sd_z 7 0 ls)) : ∀ d i, i + d = 7 → wY_run_14 post x1 len ss ft bt fe dn (d + 1) (nI i) oo dd aa bb rg wd uc lt nu kd tg fs sc bk is rd ac ry wr un pk (sd_z i 0 ls) := by
  intro d
  induction d with
  | zero =>
    intro i hi
    have e : i = 7 := by omega
    subst e
    rw [wY_run_14]
    exact br_t (by decide) h
  | succ d ih =>
    intro i hi
    have c : (nI i).toNatClampNeg = i := nI_clamp (by omega)
    rw [wY_run_14]
    exact br_f (nI_ge (b := 7) (by omega) (by omega)) ⟨vp_in_nI (by omega) (by omega), nm_r (e' := sd_z (i + 1) 0 ls) (by rw [c, sd_z_s]) (nm_r (nI_1 i) (ih (i + 1) (by omega)))⟩
theorem sy_run {post : Int32 → SY → Prop} (h : ∃ n, wY_run_33 post n 0 len ss ft bt 0 0 oo dd aa bb rg wd uc lt nu kd tg fs sc bk is rd ac ry wr un pk (sd_z 7 0 ls)) : wpY_run post (len, ss, ft, bt, fe, dn, oo, dd, aa, bb, rg, wd, uc, lt, nu, kd, tg, fs, sc, bk, is, rd, ac, ry, wr, un, pk, ls) := by
  have t := sy_r14 h 7 0 rfl
  rw [sd_z_0] at t
  exact ⟨8, t⟩
theorem sy_stop {post : Int32 → SY → Prop} {p L d : Nat} (hL : L ≤ 24) (hp : p ≤ 24) (g : ¬ (p < L ∧ ¬ oo p = 10)) (h : post 0 (nI L, ss, ft, bt, fe, dn, oo, dd, aa, bb, rg, wd, uc, lt, nu, kd, tg, fs, sc, bk, is, rd, ac, ry, wr, un, pk, ls)) : wY_run_33 post (d + 1) (nI p) (nI L) ss ft bt fe dn oo dd aa bb rg wd uc lt nu kd tg fs sc bk is rd ac ry wr un pk ls := by
  have cp : (nI p).toNatClampNeg = p := nI_clamp (by omega)
  rw [wY_run_33]
  refine sy_w L (by omega) (fun z => br_f (by decide) ?_) (fun _ => br_t rfl h)
  obtain ⟨r, hr, e⟩ := z
  have e : p = r := (nI_eq (by omega) (by omega)).mp e
  refine ⟨vp_in_nI (by omega) (by omega), ?_⟩
  rw [cp]
  exact br_t (Classical.byContradiction fun z => g ⟨by omega, z⟩) h
end SDR12
