/-! SD 5: X's instruction, scheduled -/
def sd_r7 (rc : Nat → Int32) (k : Nat) (a b c d e f g : Int32) : Nat → Int32 := upd (upd (upd (upd (upd (upd (upd rc (k * 7 + 0) a) (k * 7 + 1) b) (k * 7 + 2) c) (k * 7 + 3) d) (k * 7 + 4) e) (k * 7 + 5) f) (k * 7 + 6) g
def sd_la (i : Nat) (ls : Nat → Int32) (a : Int32) : Nat → Int32 := upd ls i (ls i + a)
theorem sd_ixc {a c : Nat} (h : a + c < 2 ^ 31) : (nI a + nI c).toNatClampNeg = a + c := by rw [nI_add]; exact nI_clamp h
theorem sd_ixv {a c M : Nat} (h : a + c < M) (hM : M < 2 ^ 31) : vp_in (nI a + nI c) M := by rw [nI_add]; exact vp_in_nI h hM
section SDX5
variable {len ss ft bt dn lw od nc li la : Int32} {oo dd aa bb rg wd uc lt rc ls rw rr uw br st : Nat → Int32}
theorem sx_note {post : SX → Prop} {p n rdv w : Nat} {Q : Nat → Nat} (hp : p < 24) (ho : oo p = nI n) (hn : n ≤ 9) (eQ : ∀ r, r < 8 → rr r = nI (Q r)) (hQ : ∀ r, r < 8 → Q r < 100000) (hrd : rdv < 100000) (hF : sd_rg (sd_fs n (aa p))) (hS : sd_rg (sd_sc n (dd p) (bb p))) (hT : sd_rg (sd_tg n (dd p)))
    (K : ∀ rw' rr' : Nat → Int32, (∀ r, r < 8 → rw' r = if sd_tg n (dd p) = nI r then nI w else rw r) → (∀ r, r < 8 → rr' r = if sd_fs n (aa p) = nI r ∨ sd_sc n (dd p) (bb p) = nI r then nI (max (Q r) rdv) else rr r) → post (len, ss, ft, bt, dn, lw, od, nc, li, la, oo, dd, aa, bb, rg, wd, uc, lt, rc, ls, rw', rr', uw, br, st)) : wpX_noteRegisters post (len, ss, ft, bt, dn, lw, od, nc, li, la, oo, dd, aa, bb, rg, wd, uc, lt, rc, ls, rw, rr, uw, br, st) (nI p) (nI rdv) (nI w) := by
  unfold wpX_noteRegisters
  dsimp only
  refine sx_first hp ho hn ?_
  refine sx_second hp ho hn ?_
  refine sx_dest hp ho hn ?_
  generalize sd_fs n (aa p) = F at *
  generalize sd_sc n (dd p) (bb p) = S at *
  generalize sd_tg n (dd p) = T at *
  have k69 : ∀ rr1 : Nat → Int32, (∀ rw' : Nat → Int32, (∀ r, r < 8 → rw' r = if T = nI r then nI w else rw r) → post (len, ss, ft, bt, dn, lw, od, nc, li, la, oo, dd, aa, bb, rg, wd, uc, lt, rc, ls, rw', rr1, uw, br, st)) → wX_noteRegisters_69 post (nI w) T len ss ft bt dn lw od nc li la oo dd aa bb rg wd uc lt rc ls rw rr1 uw br st := by
    intro rr1 h
    rcases hT with rfl | ⟨t, ht, rfl⟩
    · exact br_t rfl (h rw (fun r hr => by rw [if_neg (sd_ne1' (by omega))]))
    · have ct : (nI t).toNatClampNeg = t := nI_clamp (by omega)
      refine br_f (sd_ne1 (by omega)) ⟨vp_in_nI ht (by omega), nm_r (e' := upd rw t (nI w)) (by rw [ct]) (h _ (fun r hr => ?_))⟩
      by_cases e : r = t
      · subst e
        rw [pk_us, if_pos rfl]
      · rw [pk_un e, if_neg (fun z => e ((nI_eq (by omega) (by omega)).mp z).symm)]
  have k45 : ∀ (rr1 : Nat → Int32) (Q1 : Nat → Nat), (∀ r, r < 8 → rr1 r = nI (Q1 r)) → (∀ r, r < 8 → Q1 r < 100000) → (∀ rw' rr' : Nat → Int32, (∀ r, r < 8 → rw' r = if T = nI r then nI w else rw r) → (∀ r, r < 8 → rr' r = if S = nI r then nI (max (Q1 r) rdv) else rr1 r) → post (len, ss, ft, bt, dn, lw, od, nc, li, la, oo, dd, aa, bb, rg, wd, uc, lt, rc, ls, rw', rr', uw, br, st)) → wX_noteRegisters_45 post (nI rdv) (nI w) S T len ss ft bt dn lw od nc li la oo dd aa bb rg wd uc lt rc ls rw rr1 uw br st := by
    intro rr1 Q1 e1 b1 h
    rcases hS with rfl | ⟨t, ht, rfl⟩
    · exact br_t rfl (k69 rr1 (fun rw' h1 => h rw' rr1 h1 (fun r hr => by rw [if_neg (sd_ne1' (by omega))])))
    · have ct : (nI t).toNatClampNeg = t := nI_clamp (by omega)
      have bt := b1 t ht
      refine br_f (sd_ne1 (by omega)) ⟨vp_in_nI ht (by omega), sx_grE (Q1 t) rdv (by rw [ct]; exact e1 t ht) rfl (by omega) (by omega) ⟨vp_in_nI ht (by omega), nm_r (e' := upd rr1 t (nI (max (Q1 t) rdv))) (by rw [ct]) (k69 _ (fun rw' h1 => h rw' _ h1 (fun r hr => ?_)))⟩⟩
      by_cases e : r = t
      · subst e
        rw [pk_us, if_pos rfl]
      · rw [pk_un e, if_neg (fun z => e ((nI_eq (by omega) (by omega)).mp z).symm)]
  rcases hF with rfl | ⟨t, ht, rfl⟩
  · refine br_t rfl (k45 rr Q eQ hQ (fun rw' rr' h1 h2 => K rw' rr' h1 (fun r hr => ?_)))
    have g : ¬ (-1 : Int32) = nI r := sd_ne1' (by omega)
    simp only [g, false_or]
    exact h2 r hr
  · have ct : (nI t).toNatClampNeg = t := nI_clamp (by omega)
    have bt := hQ t ht
    refine br_f (sd_ne1 (by omega)) ⟨vp_in_nI ht (by omega), sx_grE (Q t) rdv (by rw [ct]; exact eQ t ht) rfl (by omega) (by omega) ⟨vp_in_nI ht (by omega), nm_r (e' := upd rr t (nI (max (Q t) rdv))) (by rw [ct]) (k45 _ (fun r => if r = t then max (Q t) rdv else Q r) (fun r hr => ?_) (fun r hr => ?_) (fun rw' rr' h1 h2 => K rw' rr' h1 (fun r hr => ?_)))⟩⟩
    · by_cases e : r = t
      · subst e
        rw [pk_us, if_pos rfl]
      · rw [pk_un e, if_neg e]
        exact eQ r hr
    · have := hQ r hr
      split <;> omega
    · rw [h2 r hr]
      by_cases e : r = t
      · subst e
        rw [if_pos rfl, pk_us]
        by_cases g : S = nI r
        · rw [if_pos g, if_pos (Or.inl rfl)]
          exact congrArg nI (by omega)
        · rw [if_neg g, if_pos (Or.inl rfl)]
      · have ne : ¬ nI t = nI r := fun z => e ((nI_eq (by omega) (by omega)).mp z).symm
        rw [if_neg e, pk_un e]
        by_cases g : S = nI r
        · rw [if_pos g, if_pos (Or.inr g)]
        · rw [if_neg g, if_neg (fun z => z.elim ne g)]
theorem sx_94 {post : SX → Prop} {k p n q u iss rdv start lat fin w LW : Nat} {Q : Nat → Nat} (hk : k < 60) (hp : p < 24) (ho : oo p = nI n) (hn : n ≤ 9) (hq : q < 6) (hu : u < 3) (elt : lt q = nI lat) (eQ : ∀ r, r < 8 → rr r = nI (Q r)) (hQ : ∀ r, r < 8 → Q r < 100000) (hrd : rdv < 100000) (hF : sd_rg (sd_fs n (aa p))) (hS : sd_rg (sd_sc n (dd p) (bb p))) (hT : sd_rg (sd_tg n (dd p))) (hLW : LW < 100000) (efin : fin = start + lat) (hfin : fin < 100000) (ew : w = max fin (sd_o (sd_tg n (dd p)) Q)) (hw : w < 200000)
    (K : ∀ rw' rr' : Nat → Int32, (∀ r, r < 8 → rw' r = if sd_tg n (dd p) = nI r then nI w else rw r) → (∀ r, r < 8 → rr' r = if sd_fs n (aa p) = nI r ∨ sd_sc n (dd p) (bb p) = nI r then nI (max (Q r) rdv) else rr r) → post (len, ss, ft, bt, dn, nI (max LW w), od, nI ((if 8 ≤ n then w else iss) + 1), nI iss, la, oo, dd, aa, bb, rg, wd, uc, lt, sd_r7 rc k (nI p) (nI iss) (nI rdv) (nI fin) (nI w) (nI u) (nI q), sd_la 6 (sd_la 4 ls ((nI rdv - nI iss) - 1)) (nI w - nI fin), rw', rr', upd uw (q * 3 + u) (nI w), br, st)) :
    wX_schedule_94 post (nI k) (nI p) (nI q) (sd_tg n (dd p)) (nI iss) (nI u) (nI rdv) (nI start) len ss ft bt dn (nI LW) od nc li la oo dd aa bb rg wd uc lt rc ls rw rr uw br st := by
  have cp : (nI p).toNatClampNeg = p := nI_clamp (by omega)
  have cq : (nI q).toNatClampNeg = q := nI_clamp (by omega)
  obtain ⟨cu, vu⟩ := sd_q3 (q := q) (u := u) hq hu
  subst efin
  refine ⟨vp_in_nI hq (by omega), nm_r (e' := nI (start + lat)) (by rw [cq, elt, nI_add]) ?_⟩
  refine sx_write eQ hQ hfin hT ?_
  rw [← ew]
  refine nm_e (nm_e (nm_r (e' := nI (k * 7)) (pk_mul k 7) ?_))
  refine ⟨sd_ixv (c := 0) (by omega) (by omega), nm_r (congrArg (fun z => upd rc z (nI p)) (sd_ixc (a := k * 7) (c := 0) (by omega))) ?_⟩
  refine ⟨sd_ixv (c := 1) (by omega) (by omega), nm_r (congrArg (fun z => upd _ z (nI iss)) (sd_ixc (a := k * 7) (c := 1) (by omega))) ?_⟩
  refine ⟨sd_ixv (c := 2) (by omega) (by omega), nm_r (congrArg (fun z => upd _ z (nI rdv)) (sd_ixc (a := k * 7) (c := 2) (by omega))) ?_⟩
  refine ⟨sd_ixv (c := 3) (by omega) (by omega), nm_r (congrArg (fun z => upd _ z (nI (start + lat))) (sd_ixc (a := k * 7) (c := 3) (by omega))) ?_⟩
  refine ⟨sd_ixv (c := 4) (by omega) (by omega), nm_r (congrArg (fun z => upd _ z (nI w)) (sd_ixc (a := k * 7) (c := 4) (by omega))) ?_⟩
  refine ⟨sd_ixv (c := 5) (by omega) (by omega), nm_r (congrArg (fun z => upd _ z (nI u)) (sd_ixc (a := k * 7) (c := 5) (by omega))) ?_⟩
  refine ⟨sd_ixv (c := 6) (by omega) (by omega), nm_r (congrArg (fun z => upd _ z (nI q)) (sd_ixc (a := k * 7) (c := 6) (by omega))) ?_⟩
  refine ⟨vu, nm_r (congrArg (fun z => upd uw z (nI w)) cu) ?_⟩
  refine sx_note hp ho hn eQ hQ hrd hF hS hT (fun rw' rr' h1 h2 => ?_)
  have K := K rw' rr' h1 h2
  dsimp only
  refine sx_grE LW w rfl rfl (by omega) (by omega) ?_
  refine ⟨vp_in_nI hp (by omega), ?_⟩
  rw [cp, ho]
  refine sx_jump hn (fun e => ?_) (fun e => ?_)
  · rw [if_pos e] at K
    exact br_f (by decide) (nm_r (nI_1 w) K)
  · rw [if_neg (by omega)] at K
    exact br_t rfl (nm_r (nI_1 iss) K)
theorem sx_fetch1 {post : Int32 → SX → Prop} {S O O' w F f : Nat} {st' : Nat → Int32} (hS : S ≤ 4) (hO : O < S) (hfe : ((∃ s, s < S ∧ st s = nI w) ∧ f = 0 ∧ st' = st ∧ O' = O) ∨ ((∀ s, s < S → ¬ st s = nI w) ∧ f = F ∧ st' = upd st O (nI w) ∧ O' = sd_nx S O)) (h : post (nI f) (len, nI S, nI F, bt, dn, lw, nI O', nc, li, la, oo, dd, aa, bb, rg, wd, uc, lt, rc, ls, rw, rr, uw, br, st')) : wpX_fetchWait post (len, nI S, nI F, bt, dn, lw, nI O, nc, li, la, oo, dd, aa, bb, rg, wd, uc, lt, rc, ls, rw, rr, uw, br, st) (nI w) := by
  rcases hfe with ⟨⟨s, hs, e⟩, rfl, rfl, rfl⟩ | ⟨hh, rfl, rfl, rfl⟩
  · exact sx_fetch hS hO (fun _ => h) (fun z => absurd e (z s hs))
  · exact sx_fetch hS hO (fun ⟨s, hs, e⟩ => absurd e (hh s hs)) (fun _ => h)
theorem sx_sched {post : SX → Prop} {k p n S O O' N l LW A t F f m lat iss u rdv start A' fin w r b : Nat} {U R Q : Nat → Nat} {B : Nat} {st' br' ls2 : Nat → Int32} (hk : k < 60) (hp : p < 24) (ho : oo p = nI n) (hn : n ≤ 9) (hF : sd_rg (sd_fs n (aa p))) (hS : sd_rg (sd_sc n (dd p) (bb p))) (hT : sd_rg (sd_tg n (dd p)))
    (hSS : S ≤ 4) (hO : O < S) (hm : m < 3) (euc : uc (sd_kd n) = nI (m + 1)) (elt : lt (sd_kd n) = nI lat) (eU : ∀ u, u < 3 → uw (sd_kd n * 3 + u) = nI (U u)) (hU : ∀ u, u < 3 → U u < 100000) (eR : ∀ r, r < 8 → rw r = nI (R r)) (hR : ∀ r, r < 8 → R r < 100000) (eQ : ∀ r, r < 8 → rr r = nI (Q r)) (hQ : ∀ r, r < 8 → Q r < 100000) (hN : N < 100000) (hLW : LW < 100000) (hA : A < 100000) (hB : B < 100000)
    (hfe : ((∃ s, s < S ∧ st s = nI (p / 2)) ∧ f = 0 ∧ st' = st ∧ O' = O) ∨ ((∀ s, s < S → ¬ st s = nI (p / 2)) ∧ f = F ∧ st' = upd st O (nI (p / 2)) ∧ O' = sd_nx S O)) (hNf : N + f < 100000)
    (ei : iss = max (max (N + f) (sd_mn U m + 1)) (sd_o (sd_tg n (dd p)) R)) (hi : iss < 100000) (hl : l + 1 ≤ iss) (hu : u ≤ m) (hu1 : U u < iss) (hu2 : ∀ u', u' < u → iss ≤ U u')
    (er : rdv = max (max (iss + 1) (sd_o (sd_fs n (aa p)) R)) (sd_o (sd_sc n (dd p) (bb p)) R)) (hrd : rdv < 100000)
    (hmem : ((n = 6 ∨ n = 7) ∧ r < 8 ∧ aa p = nI r ∧ b < 4 ∧ ((rg r + bb p) &&& 31) &&& 3 = nI b ∧ br b = nI B ∧ start = max (max (rdv + 1) (A + 1)) B ∧ A' = start ∧ br' = upd br b (nI (start + t)) ∧ ls2 = sd_la 5 (sd_cnt N (N + f) (sd_o (sd_tg n (dd p)) R) (iss - (l + 1)) (l + 1) ls) ((nI start - nI rdv) - 1)) ∨ (¬ (n = 6 ∨ n = 7) ∧ start = rdv ∧ A' = A ∧ br' = br ∧ ls2 = sd_cnt N (N + f) (sd_o (sd_tg n (dd p)) R) (iss - (l + 1)) (l + 1) ls))
    (ef : fin = start + lat) (hfin : fin < 100000) (ew : w = max fin (sd_o (sd_tg n (dd p)) Q)) (hw : w < 200000)
    (K : ∀ rw' rr' : Nat → Int32, (∀ r, r < 8 → rw' r = if sd_tg n (dd p) = nI r then nI w else rw r) → (∀ r, r < 8 → rr' r = if sd_fs n (aa p) = nI r ∨ sd_sc n (dd p) (bb p) = nI r then nI (max (Q r) rdv) else rr r) → post (len, nI S, nI F, nI t, dn, nI (max LW w), nI O', nI ((if 8 ≤ n then w else iss) + 1), nI iss, nI A', oo, dd, aa, bb, rg, wd, uc, lt, sd_r7 rc k (nI p) (nI iss) (nI rdv) (nI fin) (nI w) (nI u) (nI (sd_kd n)), sd_la 6 (sd_la 4 ls2 ((nI rdv - nI iss) - 1)) (nI w - nI fin), rw', rr', upd uw (sd_kd n * 3 + u) (nI w), br', st')) :
    wpX_schedule post (len, nI S, nI F, nI t, dn, nI LW, nI O, nI N, nI l, nI A, oo, dd, aa, bb, rg, wd, uc, lt, rc, ls, rw, rr, uw, br, st) (nI k) (nI p) := by
  have cp : (nI p).toNatClampNeg = p := nI_clamp (by omega)
  have sh : nI p >>> ((1 : Int32) &&& 31) = nI (p / 2) := (pk_shrN (n := p) (by omega) _ 1 (by decide)).trans (by rw [Nat.pow_one])
  have hq := sd_kd_lt n
  refine ⟨vp_in_nI hp (by omega), ?_⟩
  rw [cp, ho, sh]
  refine sx_kind hn ?_
  refine sx_dest hp ho hn ?_
  refine sx_fetch1 hSS hO hfe ?_
  refine nm_r (nI_add N f) ?_
  refine sx_issue hq hm euc eU hU eR hR hNf hT ?_
  rw [← ei]
  refine sx_free hq hm euc eU hU hi hu hu1 hu2 ?_
  refine sx_count hN hNf hi eR hR hT hl ?_
  refine sx_read hp ho hn eR hR hi hF hS ?_
  rw [← er]
  refine ⟨vp_in_nI hp (by omega), ?_⟩
  rw [ho]
  refine sx_mem hn (fun e => br_f (by decide) ?_) (fun e => br_t rfl ?_)
  · rcases hmem with ⟨_, h1, h2, h3, h4, h5, h6, h7, h8, h9⟩ | ⟨z, _⟩
    · refine sx_acc hp h1 h2 h3 h4 h5 hrd hA hB ?_
      rw [← h6]
      subst h7 h8 h9
      exact sx_94 hk hp ho hn hq (by omega) elt eQ hQ hrd hF hS hT hLW ef hfin ew hw K
    · exact absurd e z
  · rcases hmem with ⟨z, _⟩ | ⟨_, h6, h7, h8, h9⟩
    · exact absurd z e
    · subst h6 h7 h8 h9
      exact sx_94 hk hp ho hn hq (by omega) elt eQ hQ hrd hF hS hT hLW ef hfin ew hw K
end SDX5
