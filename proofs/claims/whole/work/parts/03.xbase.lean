/-! SD 3: X's small methods -/
def sd_lt (n : Nat) (v : Int32) : Prop := ∃ r : Nat, r < n ∧ v = nI r
theorem sd_lt_1 {n : Nat} {v : Int32} (hn : n < 2 ^ 31) : sd_lt n v ↔ 0 ≤ v ∧ v < nI n := by
  constructor
  · rintro ⟨r, hr, rfl⟩
    exact ⟨nI_pos' (by omega), nI_lt hr hn⟩
  · rintro ⟨h0, h1⟩
    obtain ⟨j, hj, rfl⟩ := nI_of (x := v) (Int32.not_lt.mpr h0)
    exact ⟨j, (nI_ltI hj hn).mp h1, rfl⟩
theorem sd_lt_2 {n : Nat} {v : Int32} (hn : n + 1 < 2 ^ 31) : sd_lt (n + 1) v ↔ 0 ≤ v ∧ v ≤ nI n := by
  constructor
  · rintro ⟨r, hr, rfl⟩
    exact ⟨nI_pos' (by omega), nI_le (by omega) (by omega)⟩
  · rintro ⟨h0, h1⟩
    obtain ⟨j, hj, rfl⟩ := nI_of (x := v) (Int32.not_lt.mpr h0)
    exact ⟨j, by have := (nI_leI hj (by omega)).mp h1; omega, rfl⟩
theorem sx_w {post : Int32 → Prop} {v a b : Int32} (h1 : a ≤ v → v ≤ b → post 1) (h0 : ¬ (a ≤ v ∧ v ≤ b) → post 0) : wpX_within post v a b := by
  refine ⟨fun h => h0 (fun z => ?_), fun h => ⟨fun g => h0 (fun z => ?_), fun g => h1 (Int32.not_lt.mp h) (Int32.not_lt.mp g)⟩⟩
  · exact Int32.not_lt.mpr z.1 h
  · exact Int32.not_lt.mpr z.2 g
theorem sx_w0 {post : Int32 → Prop} {v : Int32} (n : Nat) (hn : n + 1 < 2 ^ 31) (h1 : sd_lt (n + 1) v → post 1) (h0 : ¬ sd_lt (n + 1) v → post 0) : wpX_within post v 0 (nI n) :=
  sx_w (fun a b => h1 ((sd_lt_2 hn).mpr ⟨a, b⟩)) (fun z => h0 (fun y => z ((sd_lt_2 hn).mp y)))
theorem sx_wt {post : Int32 → Prop} {j : Nat} (a b : Nat) (h1 : a ≤ j) (h2 : j ≤ b) (hb : b < 2 ^ 31) (h : post 1) : wpX_within post (nI j) (nI a) (nI b) :=
  sx_w (fun _ _ => h) (fun z => absurd ⟨nI_le h1 (by omega), nI_le h2 hb⟩ z)
theorem sx_wf {post : Int32 → Prop} {j : Nat} (a b : Nat) (h1 : j < a ∨ b < j) (ha : a < 2 ^ 31) (hj : j < 2 ^ 31) (hb : b < 2 ^ 31) (h : post 0) : wpX_within post (nI j) (nI a) (nI b) :=
  sx_w (fun x y => absurd h1 (by have := (nI_leI ha hj).mp x; have := (nI_leI hj hb).mp y; omega)) (fun _ => h)
theorem sy_w {post : Int32 → Prop} {v : Int32} (n : Nat) (hn : n < 2 ^ 31) (h1 : sd_lt n v → post 1) (h0 : ¬ sd_lt n v → post 0) : wpY_in post v (nI n) := by
  refine ⟨fun h => h0 (fun z => ?_), fun h => ⟨fun g => h0 (fun z => ?_), fun g => h1 ((sd_lt_1 hn).mpr ⟨Int32.not_lt.mp h, Int32.not_le.mp g⟩)⟩⟩
  · exact Int32.not_lt.mpr ((sd_lt_1 hn).mp z).1 h
  · exact Int32.not_le.mpr ((sd_lt_1 hn).mp z).2 g
theorem sd_n0 : narrow .boolean (.int 0) = .int 0 := rfl
theorem sd_n1 : narrow .boolean (.int 1) = .int 1 := rfl
theorem sx_reg {post : Int32 → Prop} {v : Int32} (h1 : sd_lt 8 v → post 1) (h0 : ¬ sd_lt 8 v → post 0) : wpX_isRegister post v :=
  sx_w0 (post := fun r => narrow .boolean (.int r) = .int r ∧ post r) 7 (by omega) (fun h => ⟨sd_n1, h1 h⟩) (fun h => ⟨sd_n0, h0 h⟩)
theorem sx_gr {post : Int32 → Prop} {a b : Nat} (ha : a < 2 ^ 31) (hb : b < 2 ^ 31) (h : post (nI (max a b))) : wpX_greater post (nI a) (nI b) :=
  pk_le a b (fun z => by rw [Nat.max_eq_right z] at h; exact h) (fun z => by rw [Nat.max_eq_left (by omega)] at h; exact h) rfl rfl ha hb
/-! what an instruction names -/
def sd_kd (o : Nat) : Nat := if o = 0 then 0 else if o < 4 then 1 else if o = 4 then 2 else if o = 5 then 3 else if o < 8 then 4 else 5
theorem sd_kd_lt (o : Nat) : sd_kd o < 6 := by
  unfold sd_kd
  repeat' split
  all_goals omega
theorem sd_kd_4 (o : Nat) : sd_kd o = 4 ↔ o = 6 ∨ o = 7 := by
  unfold sd_kd
  repeat' split
  all_goals omega
theorem sd_kd_5 (o : Nat) : sd_kd o = 5 ↔ 8 ≤ o := by
  unfold sd_kd
  repeat' split
  all_goals omega
def sd_tg (o : Nat) (d : Int32) : Int32 := if o < 7 then d else -1
def sd_fs (o : Nat) (a : Int32) : Int32 := if 0 < o ∧ o < 9 then a else -1
def sd_sc (o : Nat) (d b : Int32) : Int32 := if o = 7 then d else if 0 < o ∧ o < 6 then b else -1
def sd_wf (op d a b : Int32) : Prop := ∃ n : Nat, n ≤ 10 ∧ op = nI n ∧ (n < 8 → sd_lt 8 d) ∧ (0 < n → n < 9 → sd_lt 8 a) ∧ (0 < n → n < 6 → sd_lt 8 b) ∧ (n = 8 ∨ n = 9 → sd_lt 24 b)
/-- the same of an instruction that is done: its op is n -/
def sd_wg (n : Nat) (op d a b : Int32) : Prop := n ≤ 9 ∧ op = nI n ∧ (n < 8 → sd_lt 8 d) ∧ (0 < n → n < 9 → sd_lt 8 a) ∧ (0 < n → n < 6 → sd_lt 8 b) ∧ (n = 8 ∨ n = 9 → sd_lt 24 b)
theorem sd_wg_of {op d a b : Int32} (h : sd_wf op d a b) (h10 : ¬ op = 10) : ∃ n, sd_wg n op d a b := by
  obtain ⟨n, h1, h2, h3⟩ := h
  refine ⟨n, ?_, h2, h3⟩
  by_cases e : n = 10
  · exact absurd (by rw [h2, e]; rfl) h10
  · omega
theorem sd_tg_r {n : Nat} {op d a b : Int32} (h : sd_wg n op d a b) : sd_rg (sd_tg n d) := by
  unfold sd_tg
  split
  · exact Or.inr (h.2.2.1 (by omega))
  · exact Or.inl rfl
theorem sd_fs_r {n : Nat} {op d a b : Int32} (h : sd_wg n op d a b) : sd_rg (sd_fs n a) := by
  unfold sd_fs
  split
  · exact Or.inr (h.2.2.2.1 (by omega) (by omega))
  · exact Or.inl rfl
theorem sd_sc_r {n : Nat} {op d a b : Int32} (h : sd_wg n op d a b) : sd_rg (sd_sc n d b) := by
  unfold sd_sc
  split
  · exact Or.inr (h.2.2.1 (by omega))
  · split
    · exact Or.inr (h.2.2.2.2.1 (by omega) (by omega))
    · exact Or.inl rfl
theorem sd_10 {n : Nat} (h : n ≤ 9) : n = 0 ∨ n = 1 ∨ n = 2 ∨ n = 3 ∨ n = 4 ∨ n = 5 ∨ n = 6 ∨ n = 7 ∨ n = 8 ∨ n = 9 := by omega
theorem sx_kind {post : Int32 → Prop} {n : Nat} (h : n ≤ 9) (hp : post (nI (sd_kd n))) : wpX_kindOf post (nI n) := by
  unfold wpX_kindOf
  rcases sd_10 h with rfl | rfl | rfl | rfl | rfl | rfl | rfl | rfl | rfl | rfl
  all_goals repeat (first | exact hp | refine br_t (by decide) ?_ | refine br_f (by decide) ?_)
theorem sy_kind {post : Int32 → Prop} {n : Nat} (h : n ≤ 9) (hp : post (nI (sd_kd n))) : wpY_kindOf post (nI n) := by
  unfold wpY_kindOf
  rcases sd_10 h with rfl | rfl | rfl | rfl | rfl | rfl | rfl | rfl | rfl | rfl
  all_goals repeat (first | exact hp | refine br_t (by decide) ?_ | refine br_f (by decide) ?_)
theorem sx_mem {post : Int32 → Prop} {n : Nat} (h : n ≤ 9) (h1 : n = 6 ∨ n = 7 → post 1) (h0 : ¬ (n = 6 ∨ n = 7) → post 0) : wpX_usesMemory post (nI n) :=
  pk_eq n 6 (fun e => h1 (Or.inl e)) (fun e => pk_eq n 7 (fun g => h1 (Or.inr g)) (fun g => h0 (by omega)))
theorem sx_jump {post : Int32 → Prop} {n : Nat} (h : n ≤ 9) (h1 : 8 ≤ n → post 1) (h0 : n < 8 → post 0) : wpX_isJump post (nI n) :=
  pk_eq n 8 (fun e => h1 (by omega)) (fun e => pk_eq n 9 (fun g => h1 (by omega)) (fun g => h0 (by omega)))
section SDX
variable {len ss ft bt dn lw od nc li la : Int32} {oo dd aa bb rg wd uc lt rc ls rw rr uw br st : Nat → Int32}
theorem sx_dest {post : Int32 → Prop} {p n : Nat} (hp : p < 24) (ho : oo p = nI n) (hn : n ≤ 9) (h : post (sd_tg n (dd p))) : wpX_destinationOf post (len, ss, ft, bt, dn, lw, od, nc, li, la, oo, dd, aa, bb, rg, wd, uc, lt, rc, ls, rw, rr, uw, br, st) (nI p) := by
  have c : (nI p).toNatClampNeg = p := nI_clamp (by omega)
  have w : vp_in (nI p) 24 := vp_in_nI hp (by omega)
  unfold sd_tg at h
  refine ⟨w, ?_⟩
  rw [c, ho]
  by_cases e : n < 7
  · rw [if_pos e] at h
    exact sx_wt 0 6 (by omega) (by omega) (by omega) (br_f (by decide) ⟨w, h⟩)
  · rw [if_neg e] at h
    exact sx_wf 0 6 (by omega) (by omega) (by omega) (by omega) (br_t rfl h)
theorem sx_first {post : Int32 → Prop} {p n : Nat} (hp : p < 24) (ho : oo p = nI n) (hn : n ≤ 9) (h : post (sd_fs n (aa p))) : wpX_firstSourceOf post (len, ss, ft, bt, dn, lw, od, nc, li, la, oo, dd, aa, bb, rg, wd, uc, lt, rc, ls, rw, rr, uw, br, st) (nI p) := by
  have c : (nI p).toNatClampNeg = p := nI_clamp (by omega)
  have w : vp_in (nI p) 24 := vp_in_nI hp (by omega)
  unfold sd_fs at h
  refine ⟨w, ?_⟩
  rw [c, ho]
  by_cases e : 0 < n ∧ n < 9
  · rw [if_pos e] at h
    exact sx_wt 1 8 (by omega) (by omega) (by omega) (br_f (by decide) ⟨w, h⟩)
  · rw [if_neg e] at h
    exact sx_wf 1 8 (by omega) (by omega) (by omega) (by omega) (br_t rfl h)
theorem sx_second {post : Int32 → Prop} {p n : Nat} (hp : p < 24) (ho : oo p = nI n) (hn : n ≤ 9) (h : post (sd_sc n (dd p) (bb p))) : wpX_secondSourceOf post (len, ss, ft, bt, dn, lw, od, nc, li, la, oo, dd, aa, bb, rg, wd, uc, lt, rc, ls, rw, rr, uw, br, st) (nI p) := by
  have c : (nI p).toNatClampNeg = p := nI_clamp (by omega)
  have w : vp_in (nI p) 24 := vp_in_nI hp (by omega)
  unfold sd_sc at h
  refine ⟨w, ?_⟩
  rw [c, ho]
  refine pk_eq n 7 (fun e => ⟨w, ?_⟩) (fun e => ⟨w, ?_⟩)
  · rw [if_pos e] at h
    exact h
  · rw [if_neg e] at h
    by_cases e2 : 0 < n ∧ n < 6
    · rw [if_pos e2] at h
      exact sx_wt 1 5 (by omega) (by omega) (by omega) (br_f (by decide) ⟨w, h⟩)
    · rw [if_neg e2] at h
      exact sx_wf 1 5 (by omega) (by omega) (by omega) (by omega) (br_t rfl h)
theorem sx_addr {post : Int32 → Prop} {p r : Nat} (hp : p < 24) (hr : r < 8) (ha : aa p = nI r) (h : post ((rg r + bb p) &&& 31)) : wpX_addressOf post (len, ss, ft, bt, dn, lw, od, nc, li, la, oo, dd, aa, bb, rg, wd, uc, lt, rc, ls, rw, rr, uw, br, st) (nI p) := by
  have c : (nI p).toNatClampNeg = p := nI_clamp (by omega)
  have w : vp_in (nI p) 24 := vp_in_nI hp (by omega)
  have c2 : (nI r).toNatClampNeg = r := nI_clamp (by omega)
  refine ⟨w, ?_⟩
  rw [c, ha, c2]
  exact ⟨vp_in_nI hr (by omega), w, h⟩
theorem sx_goes {post : Int32 → Prop} {p L : Nat} (hp : p ≤ 24) (hL : L ≤ 24) (h1 : p < L → ¬ oo p = 10 → post 1) (h0 : ¬ (p < L ∧ ¬ oo p = 10) → post 0) : wpX_goesOnAt post (nI L, ss, ft, bt, dn, lw, od, nc, li, la, oo, dd, aa, bb, rg, wd, uc, lt, rc, ls, rw, rr, uw, br, st) (nI p) := by
  have c : (nI p).toNatClampNeg = p := nI_clamp (by omega)
  have key : ∀ Q : Int32 → Prop, (p < L → Q 1) → (¬ p < L → Q 0) → wpX_within Q (nI p) 0 (nI L - 1) := by
    intro Q q1 q0
    by_cases e : L = 0
    · subst e
      refine sx_w (fun _ z => absurd z ?_) (fun _ => q0 (by omega))
      have e1 : nI 0 - 1 = (-1 : Int32) := by decide
      rw [e1]
      intro z
      exact nI_pos (n := p) (by omega) (Int32.lt_of_le_of_lt z (by decide))
    · obtain ⟨l, rfl⟩ : ∃ l, L = l + 1 := ⟨L - 1, by omega⟩
      rw [nI_pred]
      by_cases g : p < l + 1
      · exact sx_wt 0 l (by omega) (by omega) (by omega) (q1 g)
      · exact sx_wf 0 l (by omega) (by omega) (by omega) (by omega) (q0 g)
  unfold wpX_goesOnAt
  dsimp only
  refine key _ (fun g => ?_) (fun g => ?_)
  · refine br_f (by decide) ⟨vp_in_nI (by omega) (by omega), ?_⟩
    rw [c]
    exact ⟨fun e => h0 (fun z => z.2 e), fun e => h1 g e⟩
  · exact br_t rfl (h0 (fun z => g z.1))
end SDX
