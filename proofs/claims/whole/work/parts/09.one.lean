/-! SD 9: one instruction on both sides -/
def sd_rec (k : Nat) (rc nu is rd ry wr un kd : Nat → Int32) : Prop := ∀ j, j < k → rc (j * 7) = nu j ∧ rc (j * 7 + 1) = is j ∧ rc (j * 7 + 2) = rd j ∧ rc (j * 7 + 3) = ry j ∧ rc (j * 7 + 4) = wr j ∧ rc (j * 7 + 5) = un j ∧ rc (j * 7 + 6) = kd j
theorem sd_r7_n {rc : Nat → Int32} {k i : Nat} {a b c d e f g : Int32} (h : i < k * 7) : sd_r7 rc k a b c d e f g i = rc i := by
  unfold sd_r7
  rw [pk_un (by omega), pk_un (by omega), pk_un (by omega), pk_un (by omega), pk_un (by omega), pk_un (by omega), pk_un (by omega)]
theorem sd_rec_s {k : Nat} {rc nu is rd ry wr un kd : Nat → Int32} {a b c d e f g : Int32} (h : sd_rec k rc nu is rd ry wr un kd) (ha : nu k = a) (hg : kd k = g) : sd_rec (k + 1) (sd_r7 rc k a b c d e f g) nu (upd is k b) (upd rd k c) (upd ry k d) (upd wr k e) (upd un k f) kd := by
  intro j hj
  by_cases z : j = k
  · subst z
    rw [pk_us, pk_us, pk_us, pk_us, pk_us, ha, hg]
    unfold sd_r7
    refine ⟨?_, ?_, ?_, ?_, ?_, ?_, ?_⟩
    · rw [pk_un (by omega), pk_un (by omega), pk_un (by omega), pk_un (by omega), pk_un (by omega), pk_un (by omega)]
      exact pk_us
    · rw [pk_un (by omega), pk_un (by omega), pk_un (by omega), pk_un (by omega), pk_un (by omega)]
      exact pk_us
    · rw [pk_un (by omega), pk_un (by omega), pk_un (by omega), pk_un (by omega)]
      exact pk_us
    · rw [pk_un (by omega), pk_un (by omega), pk_un (by omega)]
      exact pk_us
    · rw [pk_un (by omega), pk_un (by omega)]
      exact pk_us
    · rw [pk_un (by omega)]
      exact pk_us
    · exact pk_us
  · obtain ⟨h1, h2, h3, h4, h5, h6, h7⟩ := h j (by omega)
    rw [pk_un z, pk_un z, pk_un z, pk_un z, pk_un z, sd_r7_n (by omega), sd_r7_n (by omega), sd_r7_n (by omega), sd_r7_n (by omega), sd_r7_n (by omega), sd_r7_n (by omega), sd_r7_n (by omega)]
    exact ⟨h1, h2, h3, h4, h5, h6, h7⟩
theorem sd_la_c {L : Nat → Int32} {a b : Int32} : sd_la 4 (sd_la 5 L a) b = sd_la 5 (sd_la 4 L b) a := by
  unfold sd_la
  rw [pk_un (by omega), pk_un (by omega), sd_uc (by omega)]
theorem sd_bank (x : Int32) : ∃ b : Nat, b < 4 ∧ (x &&& 31) &&& 3 = nI b ∧ x &&& 3 = nI b := by
  refine ⟨x.toBitVec.toNat % 2 ^ 2, by omega, ?_, pk_and x 2 (by decide)⟩
  rw [pk_and x 5 (by decide), pk_andN (by omega) 2 (by decide)]
  exact congrArg nI (by omega)
section SDY9
variable {len ss ft bt fe dn : Int32} {oo dd aa bb rg wd uc lt nu kd tg fs sc bk is rd ac ry wr un pk ls : Nat → Int32}
theorem sy_find0 {post : SY → Prop} {k B : Nat} (hk : k < 60) (okw : sd_ok wr k B) (oki : sd_ok is k B) (h62 : wY_find_62 post (nI k) (nI (sd_NC kd is wr k)) (nI (sd_NC kd is wr k)) (nI (sd_LI is k + 1)) len ss ft bt fe dn oo dd aa bb rg wd uc lt nu kd tg fs sc bk is rd ac ry wr un pk ls) : wpY_find post (len, ss, ft, bt, fe, dn, oo, dd, aa, bb, rg, wd, uc, lt, nu, kd, tg, fs, sc, bk, is, rd, ac, ry, wr, un, pk, ls) (nI k) := by
  cases k with
  | zero => exact br_t rfl (br_t rfl h62)
  | succ k =>
    have ck : (nI k).toNatClampNeg = k := nI_clamp (by omega)
    have vk : vp_in (nI (k + 1) - 1) 60 := by rw [nI_pred]; exact vp_in_nI (by omega) (by omega)
    have n0 : ¬ nI (k + 1) = 0 := nI_ne0 (by omega) (by omega)
    have ei : is k + 1 = nI (sd_c is k + 1) := by rw [(oki k (by omega)).1, nI_1]
    have ew : wr k + 1 = nI (sd_c wr k + 1) := by rw [(okw k (by omega)).1, nI_1]
    have eN : sd_NC kd is wr (k + 1) = (if kd k = nI 5 then sd_c wr k else sd_c is k) + 1 := by
      unfold sd_NC
      rw [if_neg (by omega), Nat.add_sub_cancel]
    have eL : sd_LI is (k + 1) = sd_c is k := by
      unfold sd_LI
      rw [if_neg (by omega), Nat.add_sub_cancel]
    rw [eL, ← ei] at h62
    have k41 : ∀ z, z = nI (sd_NC kd is wr (k + 1)) → wY_find_41 post (nI (k + 1)) z len ss ft bt fe dn oo dd aa bb rg wd uc lt nu kd tg fs sc bk is rd ac ry wr un pk ls := by
      intro z hz
      rw [hz]
      refine br_f n0 ⟨vk, ?_⟩
      rw [nI_pred, ck]
      exact h62
    refine br_f n0 ⟨vk, ?_⟩
    rw [nI_pred, ck]
    have vk' : vp_in (nI k) 60 := vp_in_nI (by omega) (by omega)
    refine ⟨fun e => ⟨vk', k41 _ ?_⟩, fun e => ⟨vk', k41 _ ?_⟩⟩
    · rw [eN, if_pos (show kd k = nI 5 from e)]
      exact ew
    · rw [eN, if_neg (show ¬ kd k = nI 5 from e)]
      exact ei
theorem sy_62 {post : SY → Prop} {k p N c0 S F t E E' f : Nat} {pk' : Nat → Int32} (hk : k < 60) (hp : p < 24) (hS : S ≤ 4) (hE : E ≤ k) (enu : nu k = nI p)
    (hfe : ((∃ i, i < E ∧ E ≤ i + S ∧ pk i = nI (p / 2)) ∧ f = 0 ∧ pk' = pk ∧ E' = E) ∨ ((∀ i, i < E → E ≤ i + S → ¬ pk i = nI (p / 2)) ∧ f = F ∧ pk' = upd pk E (nI (p / 2)) ∧ E' = E + 1))
    (h : wY_find_117 post (nI k) (nI N) (nI (N + f)) (nI c0) len (nI S) (nI F) (nI t) (nI E') dn oo dd aa bb rg wd uc lt nu kd tg fs sc bk is rd ac ry wr un pk' ls) : wY_find_62 post (nI k) (nI N) (nI N) (nI c0) len (nI S) (nI F) (nI t) (nI E) dn oo dd aa bb rg wd uc lt nu kd tg fs sc bk is rd ac ry wr un pk ls := by
  have ck : (nI k).toNatClampNeg = k := nI_clamp (by omega)
  have cE : (nI E).toNatClampNeg = E := nI_clamp (by omega)
  have vk : vp_in (nI k) 60 := vp_in_nI hk (by omega)
  have dv : nI p / 2 = nI (p / 2) := pk_div (d := 2) (by omega) (by omega) (by omega)
  have n2 : ¬ (2 : Int32) = 0 := by decide
  refine ⟨vk, n2, ?_⟩
  rw [ck, enu, dv]
  refine sy_isFetched hS (by omega) (fun i h1 h2 h3 => br_f (by decide) ?_) (fun hn => br_t rfl ?_)
  · rcases hfe with ⟨_, rfl, rfl, rfl⟩ | ⟨z, _⟩
    · exact h
    · exact absurd h3 (z i h1 h2)
  · rcases hfe with ⟨⟨i, h1, h2, h3⟩, _⟩ | ⟨_, rfl, rfl, rfl⟩
    · exact absurd h3 (hn i h1 h2)
    · refine ⟨vk, n2, vp_in_nI (by omega) (by omega), ?_⟩
      rw [cE]
      exact nm_e (nm_r (nI_1 E) (nm_r (nI_add N f) h))
end SDY9
