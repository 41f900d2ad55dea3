/-! SD 10: one instruction: X's schedule beside Y's find -/
section SDS10
variable {len dn fe : Int32} {oo dd aa bb rg wd uc lt rc ls rw rr uw br st nu kd tg fs sc bk is rd ac ry wr un pk : Nat → Int32}
theorem sd_step {k p n m lat S F t E : Nat} (hk : k < 60) (hp : p < 24) (wg : sd_wg n (oo p) (dd p) (aa p) (bb p)) (hm : m < 3) (euc : uc (sd_kd n) = nI (m + 1)) (elt : lt (sd_kd n) = nI lat) (hl1 : 1 ≤ lat) (hl8 : lat ≤ 8) (hS1 : 1 ≤ S) (hS4 : S ≤ 4) (hF : F ≤ 6) (ht : t ≤ 8)
    (I : sd_I k S t E kd tg fs sc bk is rd ac wr un pk rw rr uw br st) (hrec : sd_rec k rc nu is rd ry wr un kd) (ekd : kd k = nI (sd_kd n)) (etg : tg k = sd_tg n (dd p)) (efs : fs k = sd_fs n (aa p)) (esc : sc k = sd_sc n (dd p) (bb p)) (ebk : bk k = sd_bk n rg (aa p) (bb p)) (enu : nu k = nI p) :
    ∃ (E' : Nat) (is' rd' ac' ry' wr' un' pk' ls' : Nat → Int32),
      (∀ post : SY → Prop, post (len, nI S, nI F, nI t, nI E', dn, oo, dd, aa, bb, rg, wd, uc, lt, nu, kd, tg, fs, sc, bk, is', rd', ac', ry', wr', un', pk', ls') → wpY_find post (len, nI S, nI F, nI t, nI E, dn, oo, dd, aa, bb, rg, wd, uc, lt, nu, kd, tg, fs, sc, bk, is, rd, ac, ry, wr, un, pk, ls) (nI k)) ∧
      (∀ post : SX → Prop, (∀ rc' rw' rr' uw' br' st' : Nat → Int32, sd_I (k + 1) S t E' kd tg fs sc bk is' rd' ac' wr' un' pk' rw' rr' uw' br' st' → sd_rec (k + 1) rc' nu is' rd' ry' wr' un' kd → post (len, nI S, nI F, nI t, dn, nI (sd_LW wr' (k + 1)), nI (E' % S), nI (sd_NC kd is' wr' (k + 1)), nI (sd_LI is' (k + 1)), nI (sd_LA kd ac' (k + 1)), oo, dd, aa, bb, rg, wd, uc, lt, rc', ls', rw', rr', uw', br', st')) →
        wpX_schedule post (len, nI S, nI F, nI t, dn, nI (sd_LW wr k), nI (E % S), nI (sd_NC kd is wr k), nI (sd_LI is k), nI (sd_LA kd ac k), oo, dd, aa, bb, rg, wd, uc, lt, rc, ls, rw, rr, uw, br, st) (nI k) (nI p)) := by
  obtain ⟨i1, i2, i3, i4, i5, i6, i7, i8, i9, i10, i11⟩ := id I
  have hq := sd_kd_lt n
  have hn := wg.1
  have ho := wg.2.1
  have rT := sd_tg_r wg
  have rF := sd_fs_r wg
  have rS := sd_sc_r wg
  obtain ⟨f, st', O', pk', E', hX, hY, hst, hE', hO', hf⟩ : ∃ (f : Nat) (st' : Nat → Int32) (O' : Nat) (pk' : Nat → Int32) (E' : Nat), (((∃ s, s < S ∧ st s = nI (p / 2)) ∧ f = 0 ∧ st' = st ∧ O' = E % S) ∨ ((∀ s, s < S → ¬ st s = nI (p / 2)) ∧ f = F ∧ st' = upd st (E % S) (nI (p / 2)) ∧ O' = sd_nx S (E % S))) ∧ (((∃ i, i < E ∧ E ≤ i + S ∧ pk i = nI (p / 2)) ∧ f = 0 ∧ pk' = pk ∧ E' = E) ∨ ((∀ i, i < E → E ≤ i + S → ¬ pk i = nI (p / 2)) ∧ f = F ∧ pk' = upd pk E (nI (p / 2)) ∧ E' = E + 1)) ∧ sd_st S E' st' pk' ∧ E' ≤ k + 1 ∧ O' = E' % S ∧ f ≤ 6 := by
    have hw := sd_st_h (w := p / 2) i10 (by omega)
    by_cases e : ∃ s, s < S ∧ st s = nI (p / 2)
    · exact ⟨0, st, E % S, pk, E, Or.inl ⟨e, rfl, rfl, rfl⟩, Or.inl ⟨hw.mp e, rfl, rfl, rfl⟩, i10, by omega, rfl, by omega⟩
    · exact ⟨F, upd st (E % S) (nI (p / 2)), sd_nx S (E % S), upd pk E (nI (p / 2)), E + 1, Or.inr ⟨fun s hs z => e ⟨s, hs, z⟩, rfl, rfl, rfl⟩, Or.inr ⟨fun i a b z => e (hw.mpr ⟨i, a, b, z⟩), rfl, rfl, rfl⟩, sd_st_u i10 hS1 hS4, by omega, (sd_md hS1 hS4).symm, hF⟩
  have bU : ∀ u, sd_UW kd un wr k (sd_kd n) u ≤ 17 * k := fun u => sd_UW_b i3
  have bR : ∀ r, sd_RW tg wr k r ≤ 17 * k := fun r => sd_RW_b i3
  have bQ : ∀ r, sd_RR fs sc rd k r ≤ 17 * k := fun r => sd_RR_b i2
  have bN := sd_NC_b (kd := kd) i1 i3
  have bA := sd_LA_b i4
  have bW := sd_LW_b i3
  have hlN := sd_LI_NC (kd := kd) i5
  have hO : E % S < S := Nat.mod_lt _ (by omega)
  obtain ⟨iss, ei⟩ : ∃ iss, iss = max (max (sd_NC kd is wr k + f) (sd_mn (sd_UW kd un wr k (sd_kd n)) m + 1)) (sd_o (sd_tg n (dd p)) (sd_RW tg wr k)) := ⟨_, rfl⟩
  have bmn := sd_mn_le (F := sd_UW kd un wr k (sd_kd n)) m 0 (by omega)
  have bo := sd_o_le (F := sd_RW tg wr k) (b := 17 * k) rT (fun r _ => bR r)
  have hiss : iss ≤ 17 * k + 7 := by have := bU 0; omega
  obtain ⟨u, hu, hu1, hu2⟩ : ∃ u, u ≤ m ∧ sd_UW kd un wr k (sd_kd n) u < iss ∧ ∀ u', u' < u → iss ≤ sd_UW kd un wr k (sd_kd n) u' := by
    obtain ⟨v, hv1, hv2⟩ := sd_mn_ex (F := sd_UW kd un wr k (sd_kd n)) m
    obtain ⟨u, ⟨h1, h2⟩, h3⟩ := pk_least (fun u => u ≤ m ∧ sd_UW kd un wr k (sd_kd n) u < iss) ⟨v, hv1, by omega⟩
    refine ⟨u, h1, h2, fun u' hu' => ?_⟩
    by_cases g : sd_UW kd un wr k (sd_kd n) u' < iss
    · exact absurd ⟨by omega, g⟩ (h3 u' hu')
    · omega
  obtain ⟨rdv, er⟩ : ∃ rdv, rdv = max (max (iss + 1) (sd_o (sd_fs n (aa p)) (sd_RW tg wr k))) (sd_o (sd_sc n (dd p) (bb p)) (sd_RW tg wr k)) := ⟨_, rfl⟩
  have bo2 := sd_o_le (F := sd_RW tg wr k) (b := 17 * k) rF (fun r _ => bR r)
  have bo3 := sd_o_le (F := sd_RW tg wr k) (b := 17 * k) rS (fun r _ => bR r)
  have bo4 := sd_o_le (F := sd_RR fs sc rd k) (b := 17 * k) rT (fun r _ => bQ r)
  have hrdv : rdv ≤ 17 * k + 8 := by omega
  obtain ⟨Lc, eLc⟩ : ∃ Lc, Lc = sd_cnt (sd_NC kd is wr k) (sd_NC kd is wr k + f) (sd_o (sd_tg n (dd p)) (sd_RW tg wr k)) (iss - (sd_LI is k + 1)) (sd_LI is k + 1) ls := ⟨_, rfl⟩
  obtain ⟨start, A', br', ac', ls2, L5, r, b, hXm, hYm, hLL, hs1, hs2, hB, hA', hacc, eac, ebr⟩ : ∃ (start A' : Nat) (br' ac' ls2 L5 : Nat → Int32) (r b : Nat),
      (((n = 6 ∨ n = 7) ∧ r < 8 ∧ aa p = nI r ∧ b < 4 ∧ ((rg r + bb p) &&& 31) &&& 3 = nI b ∧ br b = nI (sd_BR kd bk ac t k b) ∧ start = max (max (rdv + 1) (sd_LA kd ac k + 1)) (sd_BR kd bk ac t k b) ∧ A' = start ∧ br' = upd br b (nI (start + t)) ∧ ls2 = sd_la 5 Lc ((nI start - nI rdv) - 1)) ∨ (¬ (n = 6 ∨ n = 7) ∧ start = rdv ∧ A' = sd_LA kd ac k ∧ br' = br ∧ ls2 = Lc)) ∧
      ((sd_kd n = 4 ∧ bk k = nI b ∧ start = max (max (rdv + 1) (sd_LA kd ac k + 1)) (sd_BR kd bk ac t k b) ∧ ac' = upd ac k (nI start) ∧ L5 = sd_la 5 (sd_la 4 Lc ((nI rdv - nI iss) - 1)) ((nI start - nI rdv) - 1)) ∨ (¬ sd_kd n = 4 ∧ start = rdv ∧ ac' = ac ∧ L5 = sd_la 4 Lc ((nI rdv - nI iss) - 1))) ∧
      sd_la 4 ls2 ((nI rdv - nI iss) - 1) = L5 ∧ rdv ≤ start ∧ start ≤ 17 * k + 9 ∧ sd_BR kd bk ac t k b ≤ 17 * k + t ∧ sd_LA kd ac' (k + 1) = A' ∧
      (sd_kd n = 4 → start ≤ 17 * (k + 1) ∧ sd_LA kd ac k ≤ start ∧ ∀ b', b' < 4 → bk k = nI b' → sd_BR kd bk ac t k b' ≤ start + t) ∧
      (ac' = if sd_kd n = 4 then upd ac k (nI start) else ac) ∧ (∀ b', b' < 4 → br' b' = if sd_kd n = 4 ∧ bk k = nI b' then nI (start + t) else br b') := by
    by_cases hmm : n = 6 ∨ n = 7
    · have k4 : sd_kd n = 4 := (sd_kd_4 n).mpr hmm
      obtain ⟨r, hr, er'⟩ := wg.2.2.2.1 (by omega) (by omega)
      obtain ⟨b, hb, eb1, eb2⟩ := sd_bank (rg r + bb p)
      have ebk' : bk k = nI b := by
        rw [ebk]
        unfold sd_bk
        rw [if_pos hmm, er', nI_clamp (by omega)]
        exact eb2
      have bB := sd_BR_b (bk := bk) (bt := t) (b := b) i4
      obtain ⟨start, es⟩ : ∃ start, start = max (max (rdv + 1) (sd_LA kd ac k + 1)) (sd_BR kd bk ac t k b) := ⟨_, rfl⟩
      refine ⟨start, start, upd br b (nI (start + t)), upd ac k (nI start), sd_la 5 Lc ((nI start - nI rdv) - 1), sd_la 5 (sd_la 4 Lc ((nI rdv - nI iss) - 1)) ((nI start - nI rdv) - 1), r, b, Or.inl ⟨hmm, hr, er', hb, eb1, i9 b hb, es, rfl, rfl, rfl⟩, Or.inl ⟨k4, ebk', es, rfl, rfl⟩, sd_la_c, by omega, by omega, bB, ?_, fun _ => ⟨by omega, by omega, fun b' hb' eb' => ?_⟩, (if_pos k4).symm, fun b' hb' => ?_⟩
      · rw [sd_LA_t (by omega) (by rw [ekd, k4]), Nat.max_eq_right (by omega)]
      · have := sd_BR_b (bk := bk) (bt := t) (b := b') i4
        have : b' = b := (nI_eq (by omega) (by omega)).mp (eb'.symm.trans ebk')
        subst this
        omega
      · by_cases g : b' = b
        · subst g
          rw [pk_us, if_pos ⟨k4, ebk'⟩]
        · rw [pk_un g, if_neg (fun z => g ((nI_eq (by omega) (by omega)).mp (z.2.symm.trans ebk')))]
    · have k4 : ¬ sd_kd n = 4 := fun z => hmm ((sd_kd_4 n).mp z)
      have nk : ¬ kd k = nI 4 := by
        rw [ekd]
        exact fun z => k4 ((nI_eq (by omega) (by omega)).mp z)
      have bB := sd_BR_b (bk := bk) (bt := t) (b := 0) i4
      exact ⟨rdv, sd_LA kd ac k, br, ac, Lc, sd_la 4 Lc ((nI rdv - nI iss) - 1), 0, 0, Or.inr ⟨hmm, rfl, rfl, rfl, rfl⟩, Or.inr ⟨k4, rfl, rfl, rfl⟩, rfl, by omega, by omega, bB, sd_LA_f nk, fun z => absurd z k4, (if_neg k4).symm, fun b' hb' => (if_neg (fun z => k4 z.1)).symm⟩
  obtain ⟨fin, ef⟩ : ∃ fin, fin = start + lat := ⟨_, rfl⟩
  obtain ⟨w, ew⟩ : ∃ w, w = max fin (sd_o (sd_tg n (dd p)) (sd_RR fs sc rd k)) := ⟨_, rfl⟩
  have hw : w ≤ 17 * (k + 1) := by omega
  refine ⟨E', upd is k (nI iss), upd rd k (nI rdv), ac', upd ry k (nI fin), upd wr k (nI w), upd un k (nI u), pk', sd_la 6 L5 (nI (w - fin)), fun post h => ?_, fun post h => ?_⟩
  · refine sy_find0 (B := 17 * k) hk i3 i1 (sy_62 (pk' := pk') (E' := E') (f := f) hk hp hS4 i11 enu hY ?_)
    unfold wY_find_117
    refine sy_held (B := 17 * k) hk (by omega) (by omega) i3 (by omega) (by rw [etg]; exact rT) (fun y6 g6 => ?_)
    refine sy_free (B := 17 * k) hk (by omega) (by omega) i3 (by omega) ekd hq hm euc (fun y7 g7 => ?_)
    exact ⟨_, sy_l135 (B := 17 * k) (Lc := Lc) (L5 := L5) (b := b) (start := start) hk ht (by omega) i3 i2 i4 (by rw [etg]; exact rT) (by rw [efs]; exact rF) (by rw [esc]; exact rS) ekd hq hm euc elt hl1 (by omega) (by omega) (by rw [etg]; exact ei) (by omega) hu hu1 hu2 (by rw [efs, esc]; exact er) (by omega) hYm ef (by rw [etg]; exact ew) (by omega) h (iss - (sd_LI is k + 1)) (sd_LI is k + 1) ls y6 y7 (by omega) (by omega) g6 g7 (by rw [etg]; exact eLc.symm)⟩
  · have hT : ∀ r, r < 8 → tg k = nI r → sd_RW tg wr k r ≤ w := by
      intro r hr e
      rw [etg] at e
      rw [e, sd_o_s (by omega)] at ei
      omega
    refine sx_sched (f := f) (st' := st') (O' := O') (r := r) (b := b) (B := sd_BR kd bk ac t k b) (start := start) (A' := A') (br' := br') (ls2 := ls2) (U := sd_UW kd un wr k (sd_kd n)) (R := sd_RW tg wr k) (Q := sd_RR fs sc rd k) (m := m) (lat := lat) (u := u) hk hp ho hn rF rS rT hS4 hO hm euc elt (fun u hu => i8 _ u hq hu) (fun u _ => by have := bU u; omega) i6 (fun r _ => by have := bR r; omega) i7 (fun r _ => by have := bQ r; omega) (by omega) (by omega) (by omega) (by omega) hX (by omega) ei (by omega) (by omega) hu hu1 hu2 er (by omega) (by rw [← eLc]; exact hXm) ef (by omega) ew (by omega) (fun rw' rr' h1 h2 => ?_)
    have Inew := sd_I_s (q := sd_kd n) (u := u) (iss := iss) (rdv := rdv) (acc := start) (w := w) (ac' := ac') (pks' := pk') (rw' := rw') (rr' := rr') (uw' := upd uw (sd_kd n * 3 + u) (nI w)) (br' := br') (st' := st') (fe' := E') I hk ht hq (by omega) ekd (by omega) (by omega) hw (by omega) hacc eac hT (by omega) (fun r hr => by rw [etg]; exact h1 r hr) (fun r hr => by rw [efs, esc]; exact h2 r hr) rfl ebr hst hE'
    have Rnew := sd_rec_s (a := nI p) (b := nI iss) (c := nI rdv) (d := nI fin) (e := nI w) (f := nI u) (g := nI (sd_kd n)) hrec enu ekd
    have H := h _ rw' rr' _ br' st' Inew Rnew
    have eif : (if kd k = nI 5 then w else iss) = (if 8 ≤ n then w else iss) := by
      by_cases g : 8 ≤ n
      · rw [if_pos g, if_pos (by rw [ekd, (sd_kd_5 n).mpr g])]
      · rw [if_neg g, if_neg (fun z => g ((sd_kd_5 n).mp ((nI_eq (by omega) (by omega)).mp (ekd.symm.trans z))))]
    rw [sd_LW_s (by omega), ← hO', sd_NC_s (by omega) (by omega), eif, sd_LI_s (by omega), hA', ← hLL, ← pk_sub (by omega)] at H
    exact H
end SDS10
