/-! SD 13: run, both sides in step -/
section SDL13
variable {od nc li la fe : Int32} {oo dd aa bb rg wd uc lt rc ls rw rr uw br st nu kd tg fs sc bk is rd ac ry wr un pk : Nat → Int32}
theorem sd_rel {L S F t k E n : Nat} (C : sd_C L S F t oo dd aa bb uc lt) (hk : k ≤ 60) (I : sd_I k S t E kd tg fs sc bk is rd ac wr un pk rw rr uw br st) (R : sd_rec k rc nu is rd ry wr un kd) : i_Rel n (nI L, nI S, nI F, nI t, nI k, nI (sd_LW wr k), od, nc, li, la, oo, dd, aa, bb, rg, wd, uc, lt, rc, ls, rw, rr, uw, br, st) (nI L, nI S, nI F, nI t, fe, nI k, oo, dd, aa, bb, rg, wd, uc, lt, nu, kd, tg, fs, sc, bk, is, rd, ac, ry, wr, un, pk, ls) :=
  ⟨L, S, F, t, k, od, nc, li, la, fe, oo, dd, aa, bb, rg, wd, uc, lt, rc, ls, rw, rr, uw, br, st, nu, kd, tg, fs, sc, bk, is, rd, ac, ry, wr, un, pk, rfl, rfl, C, hk, sd_ok_up I.2.2.1 (by omega), R⟩
end SDL13
theorem sd_loop {L S F t : Nat} {oo dd aa bb uc lt : Nat → Int32} (C : sd_C L S F t oo dd aa bb uc lt) :
    ∀ (d k p E : Nat) (rg wd rc ls rw rr uw br st nu kd tg fs sc bk is rd ac ry wr un pk : Nat → Int32), k + d = 60 → p ≤ 24 → sd_I k S t E kd tg fs sc bk is rd ac wr un pk rw rr uw br st → sd_rec k rc nu is rd ry wr un kd → ∀ post : Int32 → SX → Prop, (∀ (r : Int32) (u' : SX) (v' : SY), i_Rel 0 u' v' → (∀ postY : Int32 → SY → Prop, postY r v' → wY_run_33 postY (d + 1) (nI p) (nI L) (nI S) (nI F) (nI t) (nI E) (nI k) oo dd aa bb rg wd uc lt nu kd tg fs sc bk is rd ac ry wr un pk ls) → post r u') →
      wX_run_8 post (d + 1) (nI p) (nI k) (nI L) (nI S) (nI F) (nI t) (nI k) (nI (sd_LW wr k)) (nI (E % S)) (nI (sd_NC kd is wr k)) (nI (sd_LI is k)) (nI (sd_LA kd ac k)) oo dd aa bb rg wd uc lt rc ls rw rr uw br st := by
  obtain ⟨hL, hwf, hun, hS1, hS4, hF, ht1, ht8⟩ := id C
  intro d
  induction d with
  | zero =>
    intro k p E rg wd rc ls rw rr uw br st nu kd tg fs sc bk is rd ac ry wr un pk hk hp I R post K
    have e : k = 60 := by omega
    subst e
    have cp : (nI p).toNatClampNeg = p := nI_clamp (by omega)
    rw [wX_run_8]
    refine br_t (nI_le (a := 60) (Nat.le_refl _) (by omega)) ?_
    unfold wX_run_50
    refine sx_goes hp hL (fun g1 g2 => br_f (by decide) (K 1 _ _ (sd_rel (fe := nI E) C (Nat.le_refl _) I R) (fun postY h => ?_))) (fun g => br_t rfl (K 0 _ _ (sd_rel (fe := nI E) C (Nat.le_refl _) I R) (fun postY h => sy_stop hL hp g h)))
    rw [wY_run_33]
    refine sy_w L (by omega) (fun _ => br_f (by decide) ⟨vp_in_nI (by omega) (by omega), ?_⟩) (fun z => absurd ⟨p, g1, rfl⟩ z)
    rw [cp]
    exact br_f g2 (br_t rfl h)
  | succ d ih =>
    intro k p E rg wd rc ls rw rr uw br st nu kd tg fs sc bk is rd ac ry wr un pk hk hp I R post K
    have cp : (nI p).toNatClampNeg = p := nI_clamp (by omega)
    rw [wX_run_8]
    refine br_f (nI_ge (b := 60) (by omega) (by omega)) ?_
    refine sx_goes hp hL (fun g1 g2 => br_f (by decide) ?_) (fun g => br_t rfl ?_)
    · obtain ⟨n, wg⟩ := sd_wg_of (hwf p g1) g2
      have hp24 : p < 24 := by omega
      obtain ⟨⟨m, hm, euc⟩, lat, hl1, hl8, elt⟩ := hun (sd_kd n) (sd_kd_lt n)
      have c1 : ∀ j, j < k → upd kd k (nI (sd_kd n)) j = kd j := fun j hj => pk_un (by omega)
      have I' := sd_I_cg (kd' := upd kd k (nI (sd_kd n))) (tg' := upd tg k (sd_tg n (dd p))) (fs' := upd fs k (sd_fs n (aa p))) (sc' := upd sc k (sd_sc n (dd p) (bb p))) (bk' := upd bk k (sd_bk n rg (aa p) (bb p))) I c1 (fun j hj => pk_un (by omega)) (fun j hj => pk_un (by omega)) (fun j hj => pk_un (by omega)) (fun j hj => pk_un (by omega))
      have R' : sd_rec k rc (upd nu k (nI p)) is rd ry wr un (upd kd k (nI (sd_kd n))) := fun j hj => by
        rw [pk_un (by omega), pk_un (by omega)]
        exact R j hj
      obtain ⟨E', is', rd', ac', ry', wr', un', pk', ls', hY, hX⟩ := sd_step (len := nI L) (dn := nI k) (wd := wd) (ls := ls) (F := F) (by omega) hp24 wg hm euc elt hl1 hl8 hS1 hS4 hF ht8 I' R' pk_us pk_us pk_us pk_us pk_us pk_us
      rw [sd_NC_cg c1, sd_LA_cg c1] at hX
      refine hX _ (fun rc' rw' rr' uw' br' st' I2 R2 => ?_)
      dsimp only
      obtain ⟨p', rg', wd', hp', dX, dY⟩ := sd_do (len := nI L) (ss := nI S) (ft := nI F) (bt := nI t) (dn := nI k) (lw := nI (sd_LW wr' (k + 1))) (od := nI (E' % S)) (nc := nI (sd_NC (upd kd k (nI (sd_kd n))) is' wr' (k + 1))) (li := nI (sd_LI is' (k + 1))) (la := nI (sd_LA (upd kd k (nI (sd_kd n))) ac' (k + 1))) (fe := nI E') (dm := nI (k + 1)) (rg := rg) (wd := wd) (uc := uc) (lt := lt) (rc := rc') (ls := ls') (rw := rw') (rr := rr') (uw := uw') (br := br') (st := st') (nu := upd nu k (nI p)) (kd := upd kd k (nI (sd_kd n))) (tg := upd tg k (sd_tg n (dd p))) (fs := upd fs k (sd_fs n (aa p))) (sc := upd sc k (sd_sc n (dd p) (bb p))) (bk := upd bk k (sd_bk n rg (aa p) (bb p))) (is := is') (rd := rd') (ac := ac') (ry := ry') (wr := wr') (un := un') (pk := pk') hp24 wg
      refine dX _ ?_
      dsimp only
      refine nm_r (nI_1 k) (nm_r (nI_1 k) ?_)
      refine ih (k + 1) p' E' rg' wd' rc' ls' rw' rr' uw' br' st' _ _ _ _ _ _ is' rd' ac' ry' wr' un' pk' (by omega) hp' I2 R2 post (fun r u' v' hr hy => K r u' v' hr (fun postY hpY => ?_))
      rw [wY_run_33]
      refine sy_w L (by omega) (fun _ => br_f (by decide) ⟨vp_in_nI (by omega) (by omega), ?_⟩) (fun z => absurd ⟨p, g1, rfl⟩ z)
      rw [cp]
      refine br_f g2 (br_f (fun z => absurd ((nI_eq (a := k) (b := 60) (by omega) (by omega)).mp z) (by omega)) ?_)
      refine sy_note hp24 (by omega) wg.1 wg.2.1 wg.2.2.2.1 ?_
      dsimp only
      refine hY _ ?_
      dsimp only
      refine nm_r (nI_1 k) ?_
      refine dY _ ?_
      dsimp only
      exact hy postY hpY
    · unfold wX_run_50
      refine sx_goes hp hL (fun g1 g2 => absurd ⟨g1, g2⟩ g) (fun _ => br_t rfl (K 0 _ _ (sd_rel (fe := nI E) C (by omega) I R) (fun postY h => sy_stop hL hp g h)))
theorem i_vc_run {k : Nat} {u : SX} {v : SY} (I : i_Rel k u v) (hk : k + 5 ≤ 2560) : wpX_run (fun r u' => wpY_run (fun r' v' => r' = r ∧ i_Rel (k + 5) u' v') v) u := by
  obtain ⟨L, S, F, t, k0, od, nc, li, la, fe, oo, dd, aa, bb, rg, wd, uc, lt, rc, ls, rw, rr, uw, br, st, nu, kd, tg, fs, sc, bk, is, rd, ac, ry, wr, un, pk, rfl, rfl, C, hk0, ok, R⟩ := I
  unfold wpX_run
  dsimp only
  refine sx_begin ?_
  dsimp only
  obtain ⟨hL, hwf, hun, hS1, hS4, hF, ht1, ht8⟩ := id C
  have I0 : sd_I 0 S t 0 kd tg fs sc bk is rd ac wr un pk (sd_z 8 0 rw) (sd_z 8 0 rr) (sd_z 18 0 uw) (sd_z 4 0 br) (sd_z 4 (-1) st) := sd_I_0 hS4 (fun r hr => sd_z_at hr) (fun r hr => sd_z_at hr) (fun r hr => sd_z_at hr) (fun r hr => sd_z_at hr) (fun r hr => sd_z_at hr)
  have R0 : sd_rec 0 rc nu is rd ry wr un kd := fun j hj => absurd hj (Nat.not_lt_zero j)
  have H := sd_loop C 60 0 0 0 rg wd rc (sd_z 7 0 ls) (sd_z 8 0 rw) (sd_z 8 0 rr) (sd_z 18 0 uw) (sd_z 4 0 br) (sd_z 4 (-1) st) nu kd tg fs sc bk is rd ac ry wr un pk rfl (by omega) I0 R0 (fun r u' => wpY_run (fun r' v' => r' = r ∧ i_Rel (k + 5) u' v') (nI L, nI S, nI F, nI t, fe, nI k0, oo, dd, aa, bb, rg, wd, uc, lt, nu, kd, tg, fs, sc, bk, is, rd, ac, ry, wr, un, pk, ls)) (fun r u' v' hr hy => sy_run ⟨61, hy _ ⟨rfl, hr⟩⟩)
  rw [Nat.zero_mod] at H
  exact ⟨61, H⟩
