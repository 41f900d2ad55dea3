/-! SD 16: settings, stores, exchange -/
theorem i_vc_fetch {k : Nat} {u : SX} {v : SY} (I : i_Rel k u v) (hk : k + 5 ≤ 2560) (v1 : Int32) (v2 : Int32) : wpX_fetch (fun r u' => wpY_fetch (fun r' v' => r' = r ∧ i_Rel (k + 5) u' v') v v1 v2) u v1 v2 := by
  obtain ⟨L, S, F, t, k0, od, nc, li, la, fe, oo, dd, aa, bb, rg, wd, uc, lt, rc, ls, rw, rr, uw, br, st, nu, kd, tg, fs, sc, bk, is, rd, ac, ry, wr, un, pk, rfl, rfl, C, hk0, ok, R⟩ := I
  unfold wpX_fetch
  dsimp only
  have J := sd_mk (n := k + 5) (od := od) (nc := nc) (li := li) (la := la) (fe := fe) (rg := rg) (wd := wd) (ls := ls) (rw := rw) (rr := rr) (uw := uw) (br := br) (st := st) (tg := tg) (fs := fs) (sc := sc) (bk := bk) (ac := ac) (pk := pk) C hk0 ok R
  refine sx_wb 1 4 (by omega) (by omega) (fun g1 => br_f (by decide) ?_) (fun g => br_t rfl ?_)
  · refine sx_w0 6 (by omega) (fun g2 => br_f (by decide) ?_) (fun g => br_t rfl ?_)
    · unfold wpY_fetch
      dsimp only
      refine sy_wb 1 4 (by omega) (by omega) (fun _ => ?_) (fun z => absurd g1 z)
      refine sy_w 7 (by omega) (fun _ => br_f (by decide) ?_) (fun z => absurd g2 z)
      obtain ⟨a, a1, a2, rfl⟩ := g1
      obtain ⟨b, b1, rfl⟩ := g2
      exact ⟨rfl, sd_mk ⟨C.1, C.2.1, C.2.2.1, a1, a2, by omega, C.2.2.2.2.2.2⟩ hk0 ok R⟩
    · unfold wpY_fetch
      dsimp only
      refine sy_wb 1 4 (by omega) (by omega) (fun _ => ?_) (fun z => absurd g1 z)
      exact sy_w 7 (by omega) (fun z => absurd z g) (fun _ => br_t rfl ⟨rfl, J⟩)
  · unfold wpY_fetch
    dsimp only
    exact sy_wb 1 4 (by omega) (by omega) (fun z => absurd z g) (fun _ => ⟨rfl, J⟩)
theorem i_vc_bank {k : Nat} {u : SX} {v : SY} (I : i_Rel k u v) (hk : k + 5 ≤ 2560) (v1 : Int32) : wpX_bank (fun r u' => wpY_bank (fun r' v' => r' = r ∧ i_Rel (k + 5) u' v') v v1) u v1 := by
  obtain ⟨L, S, F, t, k0, od, nc, li, la, fe, oo, dd, aa, bb, rg, wd, uc, lt, rc, ls, rw, rr, uw, br, st, nu, kd, tg, fs, sc, bk, is, rd, ac, ry, wr, un, pk, rfl, rfl, C, hk0, ok, R⟩ := I
  unfold wpX_bank
  dsimp only
  refine sx_wb 1 8 (by omega) (by omega) (fun g => br_f (by decide) ?_) (fun g => br_t rfl ?_)
  · refine sy_wb2 1 8 (by omega) (by omega) (fun _ => ?_) (fun z => absurd g z)
    obtain ⟨a, a1, a2, rfl⟩ := g
    exact ⟨rfl, sd_mk ⟨C.1, C.2.1, C.2.2.1, C.2.2.2.1, C.2.2.2.2.1, C.2.2.2.2.2.1, a1, a2⟩ hk0 ok R⟩
  · exact sy_wb2 1 8 (by omega) (by omega) (fun z => absurd z g) (fun _ => ⟨rfl, sd_mk C hk0 ok R⟩)
theorem i_vc_poke {k : Nat} {u : SX} {v : SY} (I : i_Rel k u v) (hk : k + 5 ≤ 2560) (v1 : Int32) (v2 : Int32) : wpX_poke (fun r u' => wpY_poke (fun r' v' => r' = r ∧ i_Rel (k + 5) u' v') v v1 v2) u v1 v2 := by
  obtain ⟨L, S, F, t, k0, od, nc, li, la, fe, oo, dd, aa, bb, rg, wd, uc, lt, rc, ls, rw, rr, uw, br, st, nu, kd, tg, fs, sc, bk, is, rd, ac, ry, wr, un, pk, rfl, rfl, C, hk0, ok, R⟩ := I
  unfold wpX_poke
  dsimp only
  refine sx_w0 31 (by omega) (fun g => br_f (by decide) ?_) (fun g => br_t rfl ?_)
  · have w : vp_in v1 32 := by
      obtain ⟨q, hq, rfl⟩ := g
      exact vp_in_nI hq (by omega)
    refine ⟨w, nm_e ?_⟩
    unfold wpY_poke
    dsimp only
    exact sy_w 32 (by omega) (fun _ => br_f (by decide) ⟨w, nm_e ⟨rfl, sd_mk C hk0 ok R⟩⟩) (fun z => absurd g z)
  · unfold wpY_poke
    dsimp only
    exact sy_w 32 (by omega) (fun z => absurd z g) (fun _ => br_t rfl ⟨rfl, sd_mk C hk0 ok R⟩)
theorem i_vc_set {k : Nat} {u : SX} {v : SY} (I : i_Rel k u v) (hk : k + 5 ≤ 2560) (v1 : Int32) (v2 : Int32) : wpX_set (fun r u' => wpY_set (fun r' v' => r' = r ∧ i_Rel (k + 5) u' v') v v1 v2) u v1 v2 := by
  obtain ⟨L, S, F, t, k0, od, nc, li, la, fe, oo, dd, aa, bb, rg, wd, uc, lt, rc, ls, rw, rr, uw, br, st, nu, kd, tg, fs, sc, bk, is, rd, ac, ry, wr, un, pk, rfl, rfl, C, hk0, ok, R⟩ := I
  unfold wpX_set
  dsimp only
  refine sx_reg (fun g => br_f (by decide) ?_) (fun g => br_t rfl ?_)
  · have w : vp_in v1 8 := by
      obtain ⟨q, hq, rfl⟩ := g
      exact vp_in_nI hq (by omega)
    refine ⟨w, nm_e ?_⟩
    unfold wpY_set
    dsimp only
    exact sy_w 8 (by omega) (fun _ => br_f (by decide) ⟨w, nm_e ⟨rfl, sd_mk C hk0 ok R⟩⟩) (fun z => absurd g z)
  · unfold wpY_set
    dsimp only
    exact sy_w 8 (by omega) (fun z => absurd z g) (fun _ => br_t rfl ⟨rfl, sd_mk C hk0 ok R⟩)
section SDE16
variable {len ss ft bt dn lw od nc li la fe : Int32} {oo dd aa bb uc lt rc ls rw rr uw br st nu kd tg fs sc bk is rd ac ry wr un pk : Nat → Int32}
theorem sd_exch {w : Nat} (hw : w ≤ 24) : ∀ (d i : Nat) (rg wd : Nat → Int32), i + d = 8 → ∃ rg' wd' : Nat → Int32, (∀ post : Int32 → SX → Prop, post 1 (len, ss, ft, bt, dn, lw, od, nc, li, la, oo, dd, aa, bb, rg', wd', uc, lt, rc, ls, rw, rr, uw, br, st) → wX_exchange_14 post (nI w) len ss ft bt dn lw od nc li la (d + 1) (nI i) oo dd aa bb rg wd uc lt rc ls rw rr uw br st) ∧ (∀ post : Int32 → SY → Prop, post 1 (len, ss, ft, bt, fe, dn, oo, dd, aa, bb, rg', wd', uc, lt, nu, kd, tg, fs, sc, bk, is, rd, ac, ry, wr, un, pk, ls) → wY_exchange_13 post (nI w) len ss ft bt fe dn (d + 1) (nI i) oo dd aa bb rg wd uc lt nu kd tg fs sc bk is rd ac ry wr un pk ls) := by
  intro d
  induction d with
  | zero =>
    intro i rg wd hi
    have e : i = 8 := by omega
    subst e
    refine ⟨rg, wd, fun post h => ?_, fun post h => ?_⟩
    · rw [wX_exchange_14]
      exact br_t (by decide) h
    · rw [wY_exchange_13]
      exact br_t (by decide) h
  | succ d ih =>
    intro i rg wd hi
    have ci : (nI i).toNatClampNeg = i := nI_clamp (by omega)
    have cw : (nI w + nI i).toNatClampNeg = w + i := sd_ixc (by omega)
    have vw : vp_in (nI w + nI i) 32 := sd_ixv (by omega) (by omega)
    have vi : vp_in (nI i) 8 := vp_in_nI (by omega) (by omega)
    have ni : ¬ (8 : Int32) ≤ nI i := nI_ge (b := 8) (by omega) (by omega)
    obtain ⟨rg', wd', hX, hY⟩ := ih (i + 1) (upd rg i (wd (w + i))) (upd wd (w + i) (rg i)) (by omega)
    refine ⟨rg', wd', fun post h => ?_, fun post h => ?_⟩
    · rw [wX_exchange_14]
      refine br_f ni ⟨vi, nm_r (e' := rg i) (by rw [ci]) ⟨vw, vi, nm_r (e' := upd rg i (wd (w + i))) (by rw [ci, cw]) ⟨vw, nm_r (e' := upd wd (w + i) (rg i)) (by rw [cw]) (nm_r (nI_1 i) (hX post h))⟩⟩⟩
    · rw [wY_exchange_13]
      refine br_f ni ⟨vi, nm_r (e' := rg i) (by rw [ci]) ⟨vw, vi, nm_r (e' := upd rg i (wd (w + i))) (by rw [ci, cw]) ⟨vw, nm_r (e' := upd wd (w + i) (rg i)) (by rw [cw]) (nm_r (nI_1 i) (hY post h))⟩⟩⟩
end SDE16
theorem i_vc_exchange {k : Nat} {u : SX} {v : SY} (I : i_Rel k u v) (hk : k + 5 ≤ 2560) (v1 : Int32) : wpX_exchange (fun r u' => wpY_exchange (fun r' v' => r' = r ∧ i_Rel (k + 5) u' v') v v1) u v1 := by
  obtain ⟨L, S, F, t, k0, od, nc, li, la, fe, oo, dd, aa, bb, rg, wd, uc, lt, rc, ls, rw, rr, uw, br, st, nu, kd, tg, fs, sc, bk, is, rd, ac, ry, wr, un, pk, rfl, rfl, C, hk0, ok, R⟩ := I
  unfold wpX_exchange
  dsimp only
  refine sx_w0 24 (by omega) (fun g => br_f (by decide) ?_) (fun g => br_t rfl ?_)
  · obtain ⟨w, hw, rfl⟩ := g
    obtain ⟨rg', wd', hX, hY⟩ := sd_exch (len := nI L) (ss := nI S) (ft := nI F) (bt := nI t) (dn := nI k0) (lw := nI (sd_LW wr k0)) (od := od) (nc := nc) (li := li) (la := la) (fe := fe) (oo := oo) (dd := dd) (aa := aa) (bb := bb) (uc := uc) (lt := lt) (rc := rc) (ls := ls) (rw := rw) (rr := rr) (uw := uw) (br := br) (st := st) (nu := nu) (kd := kd) (tg := tg) (fs := fs) (sc := sc) (bk := bk) (is := is) (rd := rd) (ac := ac) (ry := ry) (wr := wr) (un := un) (pk := pk) (w := w) (by omega) 8 0 rg wd rfl
    refine ⟨9, hX _ ?_⟩
    unfold wpY_exchange
    dsimp only
    exact sy_w 25 (by omega) (fun _ => br_f (by decide) ⟨9, hY _ ⟨rfl, sd_mk C hk0 ok R⟩⟩) (fun z => absurd ⟨w, hw, rfl⟩ z)
  · unfold wpY_exchange
    dsimp only
    exact sy_w 25 (by omega) (fun z => absurd z g) (fun _ => br_t rfl ⟨rfl, sd_mk C hk0 ok R⟩)
