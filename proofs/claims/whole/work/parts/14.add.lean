/-! SD 14: a new object, add -/
section SDA14
variable {len ss ft bt dn lw od nc li la fe : Int32} {oo dd aa bb rg wd uc lt rc ls rw rr uw br st nu kd tg fs sc bk is rd ac ry wr un pk : Nat → Int32}
theorem sx_equip {post : SX → Prop} {q : Nat} {a b : Int32} (hq : q < 6) (h : post (len, ss, ft, bt, dn, lw, od, nc, li, la, oo, dd, aa, bb, rg, wd, upd uc q a, upd lt q b, rc, ls, rw, rr, uw, br, st)) : wpX_equip post (len, ss, ft, bt, dn, lw, od, nc, li, la, oo, dd, aa, bb, rg, wd, uc, lt, rc, ls, rw, rr, uw, br, st) (nI q) a b := by
  have cq : (nI q).toNatClampNeg = q := nI_clamp (by omega)
  have v : vp_in (nI q) 6 := vp_in_nI hq (by omega)
  exact ⟨v, nm_r (congrArg (fun z => upd uc z a) cq) ⟨v, nm_r (congrArg (fun z => upd lt z b) cq) h⟩⟩
end SDA14
def sd_uc0 : Nat → Int32 := upd (upd (upd (upd (upd (upd (fun _ => 0) 0 1) 1 2) 2 2) 3 1) 4 2) 5 1
def sd_lt0 : Nat → Int32 := upd (upd (upd (upd (upd (upd (fun _ => 0) 0 1) 1 2) 2 4) 3 8) 4 3) 5 1
theorem sd_C0 {oo dd aa bb : Nat → Int32} : sd_C 0 2 2 4 oo dd aa bb sd_uc0 sd_lt0 := by
  refine ⟨by omega, fun i hi => absurd hi (Nat.not_lt_zero i), fun q hq => ?_, by omega, by omega, by omega, by omega, by omega⟩
  rcases (by omega : q = 0 ∨ q = 1 ∨ q = 2 ∨ q = 3 ∨ q = 4 ∨ q = 5) with rfl | rfl | rfl | rfl | rfl | rfl
  · exact ⟨⟨0, by omega, rfl⟩, 1, by omega, by omega, rfl⟩
  · exact ⟨⟨1, by omega, rfl⟩, 2, by omega, by omega, rfl⟩
  · exact ⟨⟨1, by omega, rfl⟩, 4, by omega, by omega, rfl⟩
  · exact ⟨⟨0, by omega, rfl⟩, 8, by omega, by omega, rfl⟩
  · exact ⟨⟨1, by omega, rfl⟩, 3, by omega, by omega, rfl⟩
  · exact ⟨⟨0, by omega, rfl⟩, 1, by omega, by omega, rfl⟩
theorem i_vc0 : wpX_init (fun u => wpY_init (fun v => i_Rel 0 u v)) := by
  unfold wpX_init
  refine sx_equip (q := 0) (by omega) ?_
  dsimp only
  refine sx_equip (q := 1) (by omega) ?_
  dsimp only
  refine sx_equip (q := 2) (by omega) ?_
  dsimp only
  refine sx_equip (q := 3) (by omega) ?_
  dsimp only
  refine sx_equip (q := 4) (by omega) ?_
  dsimp only
  refine sx_equip (q := 5) (by omega) ?_
  dsimp only
  refine ⟨6 + 1, ?_⟩
  rw [wY_init_197]
  refine br_f (by decide) (br_t (by decide) ⟨vp_in_nI (n := 0) (by omega) (by omega), nm_r (e' := upd (fun _ => 0) 0 1) rfl (nm_r (e' := nI 1) (by decide) ?_)⟩)
  rw [wY_init_197]
  refine br_f (by decide) (br_f (by decide) (br_f (by decide) (br_f (by decide) ⟨vp_in_nI (n := 1) (by omega) (by omega), nm_r (e' := upd (upd (fun _ => 0) 0 1) 1 2) rfl (nm_r (e' := nI 2) (by decide) ?_)⟩)))
  rw [wY_init_197]
  refine br_f (by decide) (br_f (by decide) (br_f (by decide) (br_f (by decide) ⟨vp_in_nI (n := 2) (by omega) (by omega), nm_r (e' := upd (upd (upd (fun _ => 0) 0 1) 1 2) 2 2) rfl (nm_r (e' := nI 3) (by decide) ?_)⟩)))
  rw [wY_init_197]
  refine br_f (by decide) (br_f (by decide) (br_t (by decide) ⟨vp_in_nI (n := 3) (by omega) (by omega), nm_r (e' := upd (upd (upd (upd (fun _ => 0) 0 1) 1 2) 2 2) 3 1) rfl (nm_r (e' := nI 4) (by decide) ?_)⟩))
  rw [wY_init_197]
  refine br_f (by decide) (br_f (by decide) (br_f (by decide) (br_f (by decide) ⟨vp_in_nI (n := 4) (by omega) (by omega), nm_r (e' := upd (upd (upd (upd (upd (fun _ => 0) 0 1) 1 2) 2 2) 3 1) 4 2) rfl (nm_r (e' := nI 5) (by decide) ?_)⟩)))
  rw [wY_init_197]
  refine br_f (by decide) (br_f (by decide) (br_f (by decide) (br_t (by decide) ⟨vp_in_nI (n := 5) (by omega) (by omega), nm_r (e' := sd_uc0) rfl (nm_r (e' := nI 6) (by decide) ?_)⟩)))
  rw [wY_init_197]
  refine br_t (by decide) (nm_e (nm_e (nm_e (nm_e (nm_e (nm_e ?_))))))
  exact ⟨0, 2, 2, 4, 0, 0, 0, 0, 0, 0, fun _ => 0, fun _ => 0, fun _ => 0, fun _ => 0, fun _ => 0, fun _ => 0, sd_uc0, sd_lt0, fun _ => 0, fun _ => 0, fun _ => 0, fun _ => 0, fun _ => 0, fun _ => 0, fun _ => 0, fun _ => 0, fun _ => 0, fun _ => 0, fun _ => 0, fun _ => 0, fun _ => 0, fun _ => 0, fun _ => 0, fun _ => 0, fun _ => 0, fun _ => 0, fun _ => 0, fun _ => 0, rfl, rfl, sd_C0, by omega, sd_ok_0, fun j hj => absurd hj (Nat.not_lt_zero j)⟩
theorem sd_wf_n {n : Nat} {d a b : Int32} (hn : n < 2 ^ 31) : sd_wf (nI n) d a b ↔ n ≤ 10 ∧ (n < 8 → sd_lt 8 d) ∧ (0 < n → n < 9 → sd_lt 8 a) ∧ (0 < n → n < 6 → sd_lt 8 b) ∧ (n = 8 ∨ n = 9 → sd_lt 24 b) := by
  constructor
  · rintro ⟨m, h1, h2, h3⟩
    have e : n = m := (nI_eq hn (by omega)).mp h2
    subst e
    exact ⟨h1, h3⟩
  · rintro ⟨h1, h2⟩
    exact ⟨n, h1, rfl, h2⟩
theorem sd_wf_r {op d a b : Int32} (h : sd_wf op d a b) : sd_lt 11 op := by
  obtain ⟨m, h1, h2, _⟩ := h
  exact ⟨m, by omega, h2⟩
theorem sx_61 {post : Int32 → Prop} {d a b : Int32} (h1 : sd_lt 8 d → sd_lt 8 a → sd_lt 8 b → post 1) (h0 : ¬ (sd_lt 8 d ∧ sd_lt 8 a ∧ sd_lt 8 b) → post 0) : wX_wellFormed_61 post d a b := by
  unfold wX_wellFormed_61
  refine sx_reg (fun g1 => br_f (by decide) ?_) (fun g => br_t rfl (h0 (fun z => g z.1)))
  refine sx_reg (fun g2 => br_f (by decide) ?_) (fun g => br_t rfl (h0 (fun z => g z.2.1)))
  exact sx_reg (fun g3 => br_f (by decide) (h1 g1 g2 g3)) (fun g => br_t rfl (h0 (fun z => g z.2.2)))
theorem sx_88 {post : Int32 → Prop} {d a : Int32} (h1 : sd_lt 8 d → sd_lt 8 a → post 1) (h0 : ¬ (sd_lt 8 d ∧ sd_lt 8 a) → post 0) : wX_wellFormed_88 post d a := by
  unfold wX_wellFormed_88
  refine sx_reg (fun g1 => br_f (by decide) ?_) (fun g => br_t rfl (h0 (fun z => g z.1)))
  exact sx_reg (fun g2 => br_f (by decide) (h1 g1 g2)) (fun g => br_t rfl (h0 (fun z => g z.2)))
theorem sx_wellF {post : Int32 → Prop} {op d a b : Int32} (h1 : sd_wf op d a b → post 1) (h0 : ¬ sd_wf op d a b → post 0) : wpX_wellFormed post op d a b := by
  unfold wpX_wellFormed
  by_cases hs : op < 0
  · refine br_t hs ⟨fun e => ?_, fun _ => h0 (fun z => ?_)⟩
    · rw [e] at hs
      exact absurd hs (by decide)
    · obtain ⟨m, e1, e2, _⟩ := z
      rw [e2] at hs
      exact absurd hs (nI_pos (by omega))
  · obtain ⟨n, hn, rfl⟩ := nI_of hs
    rw [sd_wf_n hn] at h1 h0
    refine br_f hs (pk_lt 9 n (fun g => ?_) (fun g => ?_))
    · exact pk_eq n 10 (fun e => h1 ⟨by omega, fun z => by omega, fun _ z => by omega, fun _ z => by omega, fun z => by omega⟩) (fun e => h0 (fun z => by have := z.1; omega))
    · rcases sd_10 g with rfl | rfl | rfl | rfl | rfl | rfl | rfl | rfl | rfl | rfl
      · refine br_t rfl (sx_reg (fun z => ⟨sd_n1, h1 ⟨by omega, fun _ => z, fun y => by omega, fun y => by omega, fun y => by omega⟩⟩) (fun z => ⟨sd_n0, h0 (fun y => z (y.2.1 (by omega)))⟩))
      · exact br_f (by decide) (br_t rfl (sx_61 (fun x y z => h1 ⟨by omega, fun _ => x, fun _ _ => y, fun _ _ => z, fun y => by omega⟩) (fun z => h0 (fun y => z ⟨y.2.1 (by omega), y.2.2.1 (by omega) (by omega), y.2.2.2.1 (by omega) (by omega)⟩))))
      · exact br_f (by decide) (br_f (by decide) (br_t rfl (sx_61 (fun x y z => h1 ⟨by omega, fun _ => x, fun _ _ => y, fun _ _ => z, fun y => by omega⟩) (fun z => h0 (fun y => z ⟨y.2.1 (by omega), y.2.2.1 (by omega) (by omega), y.2.2.2.1 (by omega) (by omega)⟩)))))
      · exact br_f (by decide) (br_f (by decide) (br_f (by decide) (br_t rfl (sx_61 (fun x y z => h1 ⟨by omega, fun _ => x, fun _ _ => y, fun _ _ => z, fun y => by omega⟩) (fun z => h0 (fun y => z ⟨y.2.1 (by omega), y.2.2.1 (by omega) (by omega), y.2.2.2.1 (by omega) (by omega)⟩))))))
      · exact br_f (by decide) (br_f (by decide) (br_f (by decide) (br_f (by decide) (br_t rfl (sx_61 (fun x y z => h1 ⟨by omega, fun _ => x, fun _ _ => y, fun _ _ => z, fun y => by omega⟩) (fun z => h0 (fun y => z ⟨y.2.1 (by omega), y.2.2.1 (by omega) (by omega), y.2.2.2.1 (by omega) (by omega)⟩)))))))
      · exact br_f (by decide) (br_f (by decide) (br_f (by decide) (br_f (by decide) (br_f (by decide) (br_t rfl (sx_61 (fun x y z => h1 ⟨by omega, fun _ => x, fun _ _ => y, fun _ _ => z, fun y => by omega⟩) (fun z => h0 (fun y => z ⟨y.2.1 (by omega), y.2.2.1 (by omega) (by omega), y.2.2.2.1 (by omega) (by omega)⟩))))))))
      · exact br_f (by decide) (br_f (by decide) (br_f (by decide) (br_f (by decide) (br_f (by decide) (br_f (by decide) (br_t rfl (sx_88 (fun x y => h1 ⟨by omega, fun _ => x, fun _ _ => y, fun _ z => by omega, fun y => by omega⟩) (fun z => h0 (fun y => z ⟨y.2.1 (by omega), y.2.2.1 (by omega) (by omega)⟩))))))))) 
      · exact br_f (by decide) (br_f (by decide) (br_f (by decide) (br_f (by decide) (br_f (by decide) (br_f (by decide) (br_f (by decide) (br_t rfl (sx_88 (fun x y => h1 ⟨by omega, fun _ => x, fun _ _ => y, fun _ z => by omega, fun y => by omega⟩) (fun z => h0 (fun y => z ⟨y.2.1 (by omega), y.2.2.1 (by omega) (by omega)⟩)))))))))) 
      · refine br_f (by decide) (br_f (by decide) (br_f (by decide) (br_f (by decide) (br_f (by decide) (br_f (by decide) (br_f (by decide) (br_f (by decide) (br_t rfl ?_))))))))
        refine sx_reg (fun x => br_f (by decide) ?_) (fun z => br_t rfl (h0 (fun y => z (y.2.2.1 (by omega) (by omega)))))
        exact sx_w0 23 (by omega) (fun y => br_f (by decide) (h1 ⟨by omega, fun z => by omega, fun _ _ => x, fun _ z => by omega, fun _ => y⟩)) (fun z => br_t rfl (h0 (fun y => z (y.2.2.2.2 (Or.inl rfl)))))
      · refine br_f (by decide) (br_f (by decide) (br_f (by decide) (br_f (by decide) (br_f (by decide) (br_f (by decide) (br_f (by decide) (br_f (by decide) (br_f (by decide) (br_t rfl ?_)))))))))
        exact sx_w0 23 (by omega) (fun y => ⟨sd_n1, h1 ⟨by omega, fun z => by omega, fun _ z => by omega, fun _ z => by omega, fun _ => y⟩⟩) (fun z => ⟨sd_n0, h0 (fun y => z (y.2.2.2.2 (Or.inr rfl)))⟩)
