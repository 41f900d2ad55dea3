/-! SD 4: X's scoreboard -/
theorem sx_grE {post : Int32 → Prop} {x y : Int32} (a b : Nat) (hx : x = nI a) (hy : y = nI b) (ha : a < 2 ^ 31) (hb : b < 2 ^ 31) (h : post (nI (max a b))) : wpX_greater post x y := by
  subst hx hy
  exact sx_gr ha hb h
def sd_nx (S O : Nat) : Nat := if O + 1 < S then O + 1 else 0
theorem sd_mn_s {U : Nat → Nat} {i : Nat} : sd_mn U (i + 1) = if U (i + 1) < sd_mn U i then U (i + 1) else sd_mn U i := rfl
theorem sd_cnt_s {N come dw d c : Nat} {L : Nat → Int32} : sd_cnt N come dw (d + 1) c L = sd_cnt N come dw d (c + 1) (upd L (sd_ix N come dw c) (L (sd_ix N come dw c) + 1)) := rfl
theorem sd_q3 {q u : Nat} (hq : q < 6) (hu : u < 3) : (nI q * 3 + nI u).toNatClampNeg = q * 3 + u ∧ vp_in (nI q * 3 + nI u) 18 := by
  have e : nI q * 3 = nI (q * 3) := pk_mul q 3
  rw [e, nI_add]
  exact ⟨nI_clamp (by omega), vp_in_nI (by omega) (by omega)⟩
section SDX4
variable {len ss ft bt dn lw od nc li la : Int32} {oo dd aa bb rg wd uc lt rc ls rw rr uw br st : Nat → Int32}
theorem sx_fw {post : Int32 → SX → Prop} {S O w : Nat} (hS : S ≤ 4) (hO : O < S) (h1 : (∃ s, s < S ∧ st s = nI w) → post 0 (len, nI S, ft, bt, dn, lw, nI O, nc, li, la, oo, dd, aa, bb, rg, wd, uc, lt, rc, ls, rw, rr, uw, br, st)) (h0 : (∀ s, s < S → ¬ st s = nI w) → post ft (len, nI S, ft, bt, dn, lw, nI (sd_nx S O), nc, li, la, oo, dd, aa, bb, rg, wd, uc, lt, rc, ls, rw, rr, uw, br, upd st O (nI w))) :
    ∀ d s, s + d = S → (∀ s', s' < s → ¬ st s' = nI w) → wX_fetchWait_2 post (nI w) len (nI S) ft bt dn lw (nI O) nc li la oo dd aa bb rg wd uc lt rc ls rw rr uw br st (d + 1) (nI s) := by
  intro d
  induction d with
  | zero =>
    intro s hs hn
    have c : (nI O).toNatClampNeg = O := nI_clamp (by omega)
    have h0 := h0 (fun s' hs' => hn s' (by omega))
    unfold sd_nx at h0
    rw [wX_fetchWait_2]
    refine br_t (nI_le (by omega) (by omega)) ⟨vp_in_nI (by omega) (by omega), nm_r (e' := upd st O (nI w)) (by rw [c]) ?_⟩
    refine pk_le S (O + 1) (fun e => ?_) (fun e => nm_r (nI_1 O) ?_) rfl (nI_1 O)
    · rw [if_neg (by omega)] at h0
      exact h0
    · rw [if_pos (by omega)] at h0
      exact h0
  | succ d ih =>
    intro s hs hn
    have c : (nI s).toNatClampNeg = s := nI_clamp (by omega)
    rw [wX_fetchWait_2]
    refine br_f (nI_ge (by omega) (by omega)) ⟨vp_in_nI (by omega) (by omega), ?_⟩
    rw [c]
    refine ⟨fun e => h1 ⟨s, by omega, e⟩, fun e => nm_r (nI_1 s) (ih (s + 1) (by omega) (fun s' hs' => ?_))⟩
    by_cases g : s' = s
    · rw [g]; exact e
    · exact hn s' (by omega)
theorem sx_fetch {post : Int32 → SX → Prop} {S O w : Nat} (hS : S ≤ 4) (hO : O < S) (h1 : (∃ s, s < S ∧ st s = nI w) → post 0 (len, nI S, ft, bt, dn, lw, nI O, nc, li, la, oo, dd, aa, bb, rg, wd, uc, lt, rc, ls, rw, rr, uw, br, st)) (h0 : (∀ s, s < S → ¬ st s = nI w) → post ft (len, nI S, ft, bt, dn, lw, nI (sd_nx S O), nc, li, la, oo, dd, aa, bb, rg, wd, uc, lt, rc, ls, rw, rr, uw, br, upd st O (nI w))) : wpX_fetchWait post (len, nI S, ft, bt, dn, lw, nI O, nc, li, la, oo, dd, aa, bb, rg, wd, uc, lt, rc, ls, rw, rr, uw, br, st) (nI w) :=
  ⟨S + 1, sx_fw hS hO h1 h0 S 0 (Nat.zero_add S) (fun s' h => absurd h (Nat.not_lt_zero s'))⟩
theorem sx_iss {post : Int32 → Prop} {q m rdy : Nat} {T : Int32} {U R : Nat → Nat} (hq : q < 6) (hm : m < 3) (euc : uc q = nI (m + 1)) (eU : ∀ u, u < 3 → uw (q * 3 + u) = nI (U u)) (hU : ∀ u, u < 3 → U u < 100000) (eR : ∀ r, r < 8 → rw r = nI (R r)) (hR : ∀ r, r < 8 → R r < 100000) (hrdy : rdy < 100000) (hT : sd_rg T) (h : post (nI (max (max rdy (sd_mn U m + 1)) (sd_o T R)))) :
    ∀ d i, i + d = m → wX_issueCycle_13 post (nI rdy) (nI q) T len ss ft bt dn lw od nc li la oo dd aa bb rg wd uc lt rc ls rw rr uw br st (d + 1) (nI (sd_mn U i)) (nI (i + 1)) := by
  have bm : ∀ i, i < 3 → sd_mn U i < 100000 := fun i hi => Nat.lt_of_le_of_lt (sd_mn_le i 0 (by omega)) (hU 0 (by omega))
  have cq : (nI q).toNatClampNeg = q := nI_clamp (by omega)
  intro d
  induction d with
  | zero =>
    intro i hi
    have e : i = m := by omega
    subst e
    have bi := bm i hm
    rw [wX_issueCycle_13]
    refine ⟨vp_in_nI hq (by omega), ?_⟩
    rw [cq, euc]
    refine br_t (nI_le (Nat.le_refl _) (by omega)) ?_
    refine sx_grE rdy (sd_mn U i + 1) rfl (nI_1 _) (by omega) (by omega) ?_
    rcases hT with rfl | ⟨r, hr, rfl⟩
    · rw [sd_o_n, Nat.max_zero] at h
      exact br_t rfl h
    · have cr : (nI r).toNatClampNeg = r := nI_clamp (by omega)
      have br := hR r hr
      rw [sd_o_s (by omega)] at h
      refine br_f (sd_ne1 (by omega)) ⟨vp_in_nI hr (by omega), ?_⟩
      exact sx_grE _ (R r + 1) rfl (by rw [cr, eR r hr, nI_1]) (by omega) (by omega) h
  | succ d ih =>
    intro i hi
    obtain ⟨cu, vu⟩ := sd_q3 (q := q) (u := i + 1) hq (by omega)
    have bi := bm i (by omega)
    have bu := hU (i + 1) (by omega)
    have t := ih (i + 1) (by omega)
    rw [sd_mn_s] at t
    rw [wX_issueCycle_13]
    refine ⟨vp_in_nI hq (by omega), ?_⟩
    rw [cq, euc]
    refine br_f (nI_ge (by omega) (by omega)) ⟨vu, nm_r (e' := nI (U (i + 1))) (by rw [cu]; exact eU (i + 1) (by omega)) ?_⟩
    refine pk_le (sd_mn U i) (U (i + 1)) (fun e => nm_r (nI_1 (i + 1)) ?_) (fun e => nm_r (nI_1 (i + 1)) ?_)
    · rw [if_neg (by omega)] at t
      exact t
    · rw [if_pos (by omega)] at t
      exact t
theorem sx_issue {post : Int32 → Prop} {q m rdy : Nat} {T : Int32} {U R : Nat → Nat} (hq : q < 6) (hm : m < 3) (euc : uc q = nI (m + 1)) (eU : ∀ u, u < 3 → uw (q * 3 + u) = nI (U u)) (hU : ∀ u, u < 3 → U u < 100000) (eR : ∀ r, r < 8 → rw r = nI (R r)) (hR : ∀ r, r < 8 → R r < 100000) (hrdy : rdy < 100000) (hT : sd_rg T) (h : post (nI (max (max rdy (sd_mn U m + 1)) (sd_o T R)))) : wpX_issueCycle post (len, ss, ft, bt, dn, lw, od, nc, li, la, oo, dd, aa, bb, rg, wd, uc, lt, rc, ls, rw, rr, uw, br, st) (nI rdy) (nI q) T := by
  have e : nI q * 3 = nI (q * 3) := pk_mul q 3
  have c : (nI q * 3).toNatClampNeg = q * 3 := by rw [e]; exact nI_clamp (by omega)
  exact ⟨by rw [e]; exact vp_in_nI (by omega) (by omega), nm_r (e' := nI (sd_mn U 0)) (by rw [c]; exact eU 0 (by omega)) ⟨m + 1, sx_iss hq hm euc eU hU eR hR hrdy hT h m 0 (Nat.zero_add m)⟩⟩
theorem sx_fr {post : Int32 → Prop} {q m c u : Nat} {U : Nat → Nat} (hq : q < 6) (hm : m < 3) (euc : uc q = nI (m + 1)) (eU : ∀ u, u < 3 → uw (q * 3 + u) = nI (U u)) (hU : ∀ u, u < 3 → U u < 100000) (hc : c < 100000) (hu : u ≤ m) (h1 : U u < c) (h2 : ∀ u', u' < u → c ≤ U u') (h : post (nI u)) :
    ∀ d i, i + d = u → wX_freeUnit_2 post (nI q) (nI c) len ss ft bt dn lw od nc li la oo dd aa bb rg wd uc lt rc ls rw rr uw br st (d + 1) (nI i) := by
  have cq : (nI q).toNatClampNeg = q := nI_clamp (by omega)
  intro d
  induction d with
  | zero =>
    intro i hi
    have e : i = u := by omega
    subst e
    obtain ⟨cu, vu⟩ := sd_q3 (q := q) (u := i) hq (by omega)
    rw [wX_freeUnit_2]
    refine ⟨vp_in_nI hq (by omega), ?_⟩
    rw [cq, euc]
    refine br_f (nI_ge (by omega) (by omega)) ⟨vu, ?_⟩
    rw [cu, eU i (by omega)]
    exact br_f (nI_ge h1 (by omega)) h
  | succ d ih =>
    intro i hi
    obtain ⟨cu, vu⟩ := sd_q3 (q := q) (u := i) hq (by omega)
    have bu := hU i (by omega)
    rw [wX_freeUnit_2]
    refine ⟨vp_in_nI hq (by omega), ?_⟩
    rw [cq, euc]
    refine br_f (nI_ge (by omega) (by omega)) ⟨vu, ?_⟩
    rw [cu, eU i (by omega)]
    exact br_t (nI_le (h2 i (by omega)) (by omega)) (nm_r (nI_1 i) (ih (i + 1) (by omega)))
theorem sx_free {post : Int32 → Prop} {q m c u : Nat} {U : Nat → Nat} (hq : q < 6) (hm : m < 3) (euc : uc q = nI (m + 1)) (eU : ∀ u, u < 3 → uw (q * 3 + u) = nI (U u)) (hU : ∀ u, u < 3 → U u < 100000) (hc : c < 100000) (hu : u ≤ m) (h1 : U u < c) (h2 : ∀ u', u' < u → c ≤ U u') (h : post (nI u)) : wpX_freeUnit post (len, ss, ft, bt, dn, lw, od, nc, li, la, oo, dd, aa, bb, rg, wd, uc, lt, rc, ls, rw, rr, uw, br, st) (nI q) (nI c) :=
  ⟨u + 1, sx_fr hq hm euc eU hU hc hu h1 h2 h u 0 (Nat.zero_add u)⟩
theorem sx_cn {post : SX → Prop} {N come iss D dw : Nat} (hN : N < 100000) (hcm : come < 100000) (hi : iss < 100000) (hDb : D < 100000) (hD : ∀ c, 1 ≤ c → (D < c ↔ ¬ c < dw)) :
    ∀ d c (L : Nat → Int32), c + d = iss → 1 ≤ c → post (len, ss, ft, bt, dn, lw, od, nI N, li, la, oo, dd, aa, bb, rg, wd, uc, lt, rc, sd_cnt N come dw d c L, rw, rr, uw, br, st) → wX_countCyclesWithoutIssue_25 post (nI come) (nI iss) (nI D) len ss ft bt dn lw od (nI N) li la (d + 1) (nI c) oo dd aa bb rg wd uc lt rc L rw rr uw br st := by
  intro d
  induction d with
  | zero =>
    intro c L hc h1 hp
    rw [wX_countCyclesWithoutIssue_25]
    exact br_t (nI_le (by omega) (by omega)) hp
  | succ d ih =>
    intro c L hc h1 hp
    rw [sd_cnt_s] at hp
    rw [wX_countCyclesWithoutIssue_25]
    refine br_f (nI_ge (by omega) (by omega)) ?_
    refine pk_le N c (fun e => ?_) (fun e => ?_)
    · refine pk_le come c (fun e2 => ?_) (fun e2 => ?_)
      · refine pk_lt D c (fun e3 => ?_) (fun e3 => ?_)
        · have x : sd_ix N come dw c = 3 := by
            unfold sd_ix
            rw [if_neg (by omega), if_neg (by omega), if_neg ((hD c h1).mp e3)]
          rw [x] at hp
          exact nm_e (nm_r (nI_1 c) (ih (c + 1) _ (by omega) (by omega) hp))
        · have x : sd_ix N come dw c = 2 := by
            have g : c < dw := Classical.byContradiction fun z => by have := (hD c h1).mpr z; omega
            unfold sd_ix
            rw [if_neg (by omega), if_neg (by omega), if_pos g]
          rw [x] at hp
          exact nm_e (nm_r (nI_1 c) (ih (c + 1) _ (by omega) (by omega) hp))
      · have x : sd_ix N come dw c = 1 := by
          unfold sd_ix
          rw [if_neg (by omega), if_pos (by omega)]
        rw [x] at hp
        exact nm_e (nm_r (nI_1 c) (ih (c + 1) _ (by omega) (by omega) hp))
    · have x : sd_ix N come dw c = 0 := by
        unfold sd_ix
        rw [if_pos (by omega)]
      rw [x] at hp
      exact nm_e (nm_r (nI_1 c) (ih (c + 1) _ (by omega) (by omega) hp))
theorem sx_count {post : SX → Prop} {N come iss l : Nat} {T : Int32} {R : Nat → Nat} (hN : N < 100000) (hcm : come < 100000) (hi : iss < 100000) (eR : ∀ r, r < 8 → rw r = nI (R r)) (hR : ∀ r, r < 8 → R r < 100000) (hT : sd_rg T) (hl : l + 1 ≤ iss) (h : post (len, ss, ft, bt, dn, lw, od, nI N, nI l, la, oo, dd, aa, bb, rg, wd, uc, lt, rc, sd_cnt N come (sd_o T R) (iss - (l + 1)) (l + 1) ls, rw, rr, uw, br, st)) : wpX_countCyclesWithoutIssue post (len, ss, ft, bt, dn, lw, od, nI N, nI l, la, oo, dd, aa, bb, rg, wd, uc, lt, rc, ls, rw, rr, uw, br, st) (nI come) (nI iss) T := by
  rcases hT with rfl | ⟨r, hr, rfl⟩
  · rw [sd_o_n] at h
    exact br_t rfl (nm_r (nI_1 l) ⟨_, sx_cn (D := 0) hN hcm hi (by omega) (fun c hc => by omega) (iss - (l + 1)) (l + 1) ls (by omega) (by omega) h⟩)
  · have cr : (nI r).toNatClampNeg = r := nI_clamp (by omega)
    rw [sd_o_s (by omega)] at h
    exact br_f (sd_ne1 (by omega)) ⟨vp_in_nI hr (by omega), nm_r (e' := nI (R r)) (by rw [cr, eR r hr]) (nm_r (nI_1 l) ⟨_, sx_cn (D := R r) hN hcm hi (hR r hr) (fun c hc => by omega) (iss - (l + 1)) (l + 1) ls (by omega) (by omega) h⟩)⟩
theorem sx_read {post : Int32 → Prop} {p n iss : Nat} {R : Nat → Nat} (hp : p < 24) (ho : oo p = nI n) (hn : n ≤ 9) (eR : ∀ r, r < 8 → rw r = nI (R r)) (hR : ∀ r, r < 8 → R r < 100000) (hi : iss < 100000) (hF : sd_rg (sd_fs n (aa p))) (hS : sd_rg (sd_sc n (dd p) (bb p))) (h : post (nI (max (max (iss + 1) (sd_o (sd_fs n (aa p)) R)) (sd_o (sd_sc n (dd p) (bb p)) R)))) : wpX_readCycle post (len, ss, ft, bt, dn, lw, od, nc, li, la, oo, dd, aa, bb, rg, wd, uc, lt, rc, ls, rw, rr, uw, br, st) (nI p) (nI iss) := by
  have k38 : ∀ a S, sd_rg S → a < 200000 → post (nI (max a (sd_o S R))) → wX_readCycle_38 post S (nI a) len ss ft bt dn lw od nc li la oo dd aa bb rg wd uc lt rc ls rw rr uw br st := by
    intro a S hS ha hh
    rcases hS with rfl | ⟨r, hr, rfl⟩
    · rw [sd_o_n, Nat.max_zero] at hh
      exact br_t rfl hh
    · have cr : (nI r).toNatClampNeg = r := nI_clamp (by omega)
      have bR := hR r hr
      rw [sd_o_s (by omega)] at hh
      exact br_f (sd_ne1 (by omega)) ⟨vp_in_nI hr (by omega), sx_grE a (R r + 1) rfl (by rw [cr, eR r hr, nI_1]) (by omega) (by omega) hh⟩
  unfold wpX_readCycle
  dsimp only
  refine sx_first hp ho hn ?_
  refine sx_second hp ho hn ?_
  refine nm_r (nI_1 iss) ?_
  generalize sd_fs n (aa p) = F at *
  generalize sd_sc n (dd p) (bb p) = S at *
  rcases hF with rfl | ⟨r, hr, rfl⟩
  · rw [sd_o_n, Nat.max_zero] at h
    exact br_t rfl (k38 _ _ hS (by omega) h)
  · have cr : (nI r).toNatClampNeg = r := nI_clamp (by omega)
    have bR := hR r hr
    rw [sd_o_s (by omega)] at h
    exact br_f (sd_ne1 (by omega)) ⟨vp_in_nI hr (by omega), sx_grE (iss + 1) (R r + 1) rfl (by rw [cr, eR r hr, nI_1]) (by omega) (by omega) (k38 _ _ hS (by omega) h)⟩
theorem sx_acc {post : Int32 → SX → Prop} {p r b rdv l t B : Nat} (hp : p < 24) (hr : r < 8) (ha : aa p = nI r) (hb : b < 4) (eb : ((rg r + bb p) &&& 31) &&& 3 = nI b) (ebr : br b = nI B) (h1 : rdv < 100000) (h2 : l < 100000) (h3 : B < 100000)
    (h : post (nI (max (max (rdv + 1) (l + 1)) B)) (len, ss, ft, nI t, dn, lw, od, nc, li, nI (max (max (rdv + 1) (l + 1)) B), oo, dd, aa, bb, rg, wd, uc, lt, rc, upd ls 5 (ls 5 + ((nI (max (max (rdv + 1) (l + 1)) B) - nI rdv) - 1)), rw, rr, uw, upd br b (nI (max (max (rdv + 1) (l + 1)) B + t)), st)) : wpX_accessCycle post (len, ss, ft, nI t, dn, lw, od, nc, li, nI l, oo, dd, aa, bb, rg, wd, uc, lt, rc, ls, rw, rr, uw, br, st) (nI p) (nI rdv) := by
  have cb : (nI b).toNatClampNeg = b := nI_clamp (by omega)
  unfold wpX_accessCycle
  dsimp only
  refine sx_addr hp hr ha ?_
  refine nm_r eb ?_
  refine sx_grE (rdv + 1) (l + 1) (nI_1 rdv) (nI_1 l) (by omega) (by omega) ?_
  refine ⟨vp_in_nI hb (by omega), ?_⟩
  refine sx_grE (max (rdv + 1) (l + 1)) B rfl (by rw [cb]; exact ebr) (by omega) (by omega) ?_
  exact ⟨vp_in_nI hb (by omega), nm_r (e' := upd br b (nI (max (max (rdv + 1) (l + 1)) B + t))) (by rw [cb, nI_add]) (nm_e h)⟩
theorem sx_write {post : Int32 → Prop} {fin : Nat} {T : Int32} {Q : Nat → Nat} (eQ : ∀ r, r < 8 → rr r = nI (Q r)) (hQ : ∀ r, r < 8 → Q r < 100000) (hf : fin < 100000) (hT : sd_rg T) (h : post (nI (max fin (sd_o T Q)))) : wpX_writeCycle post (len, ss, ft, bt, dn, lw, od, nc, li, la, oo, dd, aa, bb, rg, wd, uc, lt, rc, ls, rw, rr, uw, br, st) (nI fin) T := by
  rcases hT with rfl | ⟨r, hr, rfl⟩
  · rw [sd_o_n, Nat.max_zero] at h
    exact br_t rfl h
  · have cr : (nI r).toNatClampNeg = r := nI_clamp (by omega)
    have bQ := hQ r hr
    rw [sd_o_s (by omega)] at h
    exact br_f (sd_ne1 (by omega)) ⟨vp_in_nI hr (by omega), sx_grE fin (Q r + 1) rfl (by rw [cr, eQ r hr, nI_1]) (by omega) (by omega) h⟩
end SDX4
