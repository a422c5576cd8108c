/-! addRow -/
def bm_bad (n : Nat) (a : Int32) : Prop := a < 0 ∨ nI n ≤ a
theorem bm_bad_or {n : Nat} (hn : n < 2 ^ 31) (a : Int32) : bm_bad n a ∨ ∃ j, j < n ∧ a = nI j := by
  rcases pk_ix a hn with z | z | z
  · exact Or.inl (Or.inl z)
  · exact Or.inl (Or.inr z)
  · exact Or.inr z
/-- a guard's arguments that are valid, and not -/
def bm_GV (cN : Nat) (g a b : Int32) : Prop := g = 0 ∨ ((g = 1 ∨ g = 2) ∧ ∃ x y, x < 8 ∧ y < 8 ∧ a = nI x ∧ b = nI y) ∨ (g = 3 ∧ ∃ x c, x < 8 ∧ c < cN ∧ a = nI x ∧ b = nI c) ∨ (g = 4 ∧ ∃ x, x < 8 ∧ a = nI x)
def bm_GN (cN : Nat) (g a b : Int32) : Prop := ((g = 1 ∨ g = 2) ∧ (bm_bad 8 a ∨ ((∃ x, x < 8 ∧ a = nI x) ∧ bm_bad 8 b))) ∨ (g = 3 ∧ (bm_bad 8 a ∨ ((∃ x, x < 8 ∧ a = nI x) ∧ bm_bad cN b))) ∨ (g = 4 ∧ bm_bad 8 a)
theorem bm_GVN {cN : Nat} (hc : cN ≤ 8) {g : Int32} (a b : Int32) (h0 : ¬ g < 0) (h4 : g ≤ 4) : bm_GV cN g a b ∨ bm_GN cN g a b := by
  have B8 := bm_bad_or (n := 8) (by decide)
  have BC := bm_bad_or (n := cN) (by omega)
  have two : (g = 1 ∨ g = 2) → bm_GV cN g a b ∨ bm_GN cN g a b := by
    intro e
    rcases B8 a with z | ⟨x, hx, ex⟩
    · exact Or.inr (Or.inl ⟨e, Or.inl z⟩)
    · rcases B8 b with w | ⟨y, hy, ey⟩
      · exact Or.inr (Or.inl ⟨e, Or.inr ⟨⟨x, hx, ex⟩, w⟩⟩)
      · exact Or.inl (Or.inr (Or.inl ⟨e, x, y, hx, hy, ex, ey⟩))
  rcases bm_k5 h0 h4 with e | e | e | e | e
  · exact Or.inl (Or.inl e)
  · exact two (Or.inl e)
  · exact two (Or.inr e)
  · rcases B8 a with z | ⟨x, hx, ex⟩
    · exact Or.inr (Or.inr (Or.inl ⟨e, Or.inl z⟩))
    · rcases BC b with w | ⟨y, hy, ey⟩
      · exact Or.inr (Or.inr (Or.inl ⟨e, Or.inr ⟨⟨x, hx, ex⟩, w⟩⟩))
      · exact Or.inl (Or.inr (Or.inr (Or.inl ⟨e, x, y, hx, hy, ex, ey⟩)))
  · rcases B8 a with z | ⟨x, hx, ex⟩
    · exact Or.inr (Or.inr (Or.inr ⟨e, z⟩))
    · exact Or.inl (Or.inr (Or.inr (Or.inr ⟨e, x, hx, ex⟩)))
/-- the reference's chain over a guard's arguments: A refuses, B stores, S the pair of variables -/
def bm_YG (A B S : Prop) (fC g a b : Int32) : Prop :=
  ((g = 1 → S) ∧ (¬ g = 1 → ((g = 2 → S) ∧ (¬ g = 2 → ((g = 3 → ((a < 0 → A) ∧ (¬ a < 0 → ((7 < a → A) ∧ (¬ 7 < a → ((b < 0 → A) ∧ (¬ b < 0 → ((b < fC → B) ∧ (¬ b < fC → A)))))))) ) ∧ (¬ g = 3 → ((g = 4 → ((a < 0 → A) ∧ (¬ a < 0 → ((a ≤ 7 → B) ∧ (¬ a ≤ 7 → A))))) ∧ (¬ g = 4 → B))))))))
def bm_YF1 (A B : Prop) (us : Nat → Int32) (fQ b : Int32) : Prop := ((b < 0 → A) ∧ (¬ b < 0 → ((fQ ≤ b → A) ∧ (¬ fQ ≤ b → (vp_in b 64 ∧ ((us b.toNatClampNeg = 0 → B) ∧ (¬ us b.toNatClampNeg = 0 → A)))))))
theorem yy_fr_t {A B : Prop} {us : Nat → Int32} {pN q : Nat} (hq : q < pN) (h6 : pN ≤ 64) (h0 : us q = 0) (h : B) : bm_YF1 A B us (nI pN) (nI q) :=
  br_f (bm_nge (by omega)) (br_f (nI_ge hq (by omega)) ⟨vp_in_nI (by omega) (by omega), br_t (by rw [nI_clamp (by omega)]; exact h0) h⟩)
theorem yy_fr_f {A B : Prop} {us : Nat → Int32} {pN : Nat} {b : Int32} (h6 : pN ≤ 64) (hb : bm_NFree us pN b) (h : A) : bm_YF1 A B us (nI pN) b := by
  rcases hb with z | z | ⟨q, hq, rfl, h0⟩
  · exact br_t z h
  · exact br_c (fun _ => h) (fun _ => br_t z h)
  · exact br_f (bm_nge (by omega)) (br_f (nI_ge hq (by omega)) ⟨vp_in_nI (by omega) (by omega), br_f (by rw [nI_clamp (by omega)]; exact h0) h⟩)
theorem yy_ga_t {A B S : Prop} {cN : Nat} {g a b : Int32} (h8 : cN ≤ 8) (h : bm_GV cN g a b) (hS : (g = 1 ∨ g = 2) → S) (hB : B) : bm_YG A B S (nI cN) g a b := by
  rcases h with rfl | ⟨e, _⟩ | ⟨rfl, x, c, hx, hc, rfl, rfl⟩ | ⟨rfl, x, hx, rfl⟩
  · exact br_f (by decide) (br_f (by decide) (br_f (by decide) (br_f (by decide) hB)))
  · rcases e with rfl | rfl
    · exact br_t rfl (hS (Or.inl rfl))
    · exact br_f (by decide) (br_t rfl (hS (Or.inr rfl)))
  · exact br_f (by decide) (br_f (by decide) (br_t rfl (br_f (bm_nge (by omega)) (br_f (bm_n7lt hx) (br_f (bm_nge (by omega)) (br_t (nI_lt hc (by omega)) hB))))))
  · exact br_f (by decide) (br_f (by decide) (br_f (by decide) (br_t rfl (br_f (bm_nge (by omega)) (br_t (bm_le7 hx) hB)))))
theorem yy_ga_f {A B S : Prop} {cN : Nat} {g a b : Int32} (h8 : cN ≤ 8) (h : bm_GN cN g a b) (hS : (g = 1 ∨ g = 2) → S) (hA : A) : bm_YG A B S (nI cN) g a b := by
  rcases h with ⟨e, _⟩ | ⟨rfl, z | ⟨⟨x, hx, rfl⟩, z⟩⟩ | ⟨rfl, z⟩
  · rcases e with rfl | rfl
    · exact br_t rfl (hS (Or.inl rfl))
    · exact br_f (by decide) (br_t rfl (hS (Or.inr rfl)))
  · exact br_f (by decide) (br_f (by decide) (br_t rfl (br_c (fun _ => hA) (fun w => br_t (bm_7lt (z.resolve_left w)) hA))))
  · exact br_f (by decide) (br_f (by decide) (br_t rfl (br_f (bm_nge (by omega)) (br_f (bm_n7lt hx) (br_c (fun _ => hA) (fun w => br_f (Int32.not_lt.mpr (z.resolve_left w)) hA))))))
  · exact br_f (by decide) (br_f (by decide) (br_f (by decide) (br_t rfl (br_c (fun _ => hA) (fun w => br_f (bm_nle7 (z.resolve_left w)) hA)))))
section
variable {fT fP fR fC fN fQ fW cm sr fG pk : Int32} {ar tc t0 t1 hX kd pl pf ps us fi rp rg r1 r2 sb gl rb pp pt hg pA pB pC pa ok rY st : Nat → Int32} {H sz : Nat → Nat} {cN pN tN rN : Nat}
theorem xx_g32_t {post : Int32 → Prop} {x y : Nat} (hx : x < 8) (hy : y < 8) (h : post 1) : wX_guardArgumentsAreValid_32 post (nI x) (nI y) fT fP fR fC fN fQ fW cm sr fG pk ar tc t0 t1 hX kd pl pf ps us fi rp rg r1 r2 sb gl rb pp pt := by
  unfold wX_guardArgumentsAreValid_32
  exact xx_var_t hx (br_f bm_n10 (xx_var_t hy (br_f bm_n10 h)))
theorem xx_g32_f {post : Int32 → Prop} {a b : Int32} (z : bm_bad 8 a ∨ ((∃ x, x < 8 ∧ a = nI x) ∧ bm_bad 8 b)) (h : post 0) : wX_guardArgumentsAreValid_32 post a b fT fP fR fC fN fQ fW cm sr fG pk ar tc t0 t1 hX kd pl pf ps us fi rp rg r1 r2 sb gl rb pp pt := by
  unfold wX_guardArgumentsAreValid_32
  rcases z with z | ⟨⟨x, hx, rfl⟩, z⟩
  · exact xx_var_f z (br_t rfl h)
  · exact xx_var_t hx (br_f bm_n10 (xx_var_f z (br_t rfl h)))
theorem xx_ga_t {post : Int32 → Prop} {g a b : Int32} (h8 : cN ≤ 8) (z : bm_GV cN g a b) (h : post 1) : wpX_guardArgumentsAreValid post (fT, fP, fR, nI cN, fN, fQ, fW, cm, sr, fG, pk, ar, tc, t0, t1, hX, kd, pl, pf, ps, us, fi, rp, rg, r1, r2, sb, gl, rb, pp, pt) g a b := by
  rcases z with rfl | ⟨e, x, y, hx, hy, rfl, rfl⟩ | ⟨rfl, x, c, hx, hc, rfl, rfl⟩ | ⟨rfl, x, hx, rfl⟩
  · exact br_t (by decide) h
  · rcases e with rfl | rfl
    · exact br_f (by decide) (br_f (by decide) (br_t rfl (xx_g32_t hx hy h)))
    · exact br_f (by decide) (br_f (by decide) (br_f (by decide) (br_t rfl (xx_g32_t hx hy h))))
  · exact br_f (by decide) (br_f (by decide) (br_f (by decide) (br_f (by decide) (br_t rfl (xx_var_t hx (br_f bm_n10 (xx_cons_t hc h8 (br_f bm_n10 h))))))))
  · exact br_f (by decide) (br_f (by decide) (br_f (by decide) (br_f (by decide) (br_f (by decide) (br_t rfl (xx_var_t hx ⟨bm_nb1, h⟩))))))
theorem xx_ga_f {post : Int32 → Prop} {g a b : Int32} (h8 : cN ≤ 8) (z : bm_GN cN g a b) (h : post 0) : wpX_guardArgumentsAreValid post (fT, fP, fR, nI cN, fN, fQ, fW, cm, sr, fG, pk, ar, tc, t0, t1, hX, kd, pl, pf, ps, us, fi, rp, rg, r1, r2, sb, gl, rb, pp, pt) g a b := by
  rcases z with ⟨e, z⟩ | ⟨rfl, z | ⟨⟨x, hx, rfl⟩, z⟩⟩ | ⟨rfl, z⟩
  · rcases e with rfl | rfl
    · exact br_f (by decide) (br_f (by decide) (br_t rfl (xx_g32_f z h)))
    · exact br_f (by decide) (br_f (by decide) (br_f (by decide) (br_t rfl (xx_g32_f z h))))
  · exact br_f (by decide) (br_f (by decide) (br_f (by decide) (br_f (by decide) (br_t rfl (xx_var_f z (br_t rfl h))))))
  · exact br_f (by decide) (br_f (by decide) (br_f (by decide) (br_f (by decide) (br_t rfl (xx_var_t hx (br_f bm_n10 (xx_cons_f z (br_t rfl h))))))))
  · exact br_f (by decide) (br_f (by decide) (br_f (by decide) (br_f (by decide) (br_f (by decide) (br_t rfl (xx_var_f z ⟨bm_nb0, h⟩))))))
theorem yy_66_t {post : Int32 → SY → Prop} {p g : Int32} {x y : Nat} (hx : x < 8) (hy : y < 8) (h : wY_addRow_138 post p g (nI x) (nI y) fT fP fR fC fN fQ fW cm sr fG ar tc t0 t1 hg kd pA pB pC us rp rg r1 r2 sb gl pa ok rY st) : wY_addRow_66 post p g (nI x) (nI y) fT fP fR fC fN fQ fW cm sr fG ar tc t0 t1 hg kd pA pB pC us rp rg r1 r2 sb gl pa ok rY st :=
  br_f (bm_nge (by omega)) (br_f (bm_n7lt hx) (br_f (bm_nge (by omega)) (br_t (bm_le7 hy) h)))
theorem yy_66_f {post : Int32 → SY → Prop} {p g a b : Int32} (z : bm_bad 8 a ∨ ((∃ x, x < 8 ∧ a = nI x) ∧ bm_bad 8 b)) (h : post (-1) (fT, fP, fR, fC, fN, fQ, fW, cm, sr, fG, ar, tc, t0, t1, hg, kd, pA, pB, pC, us, rp, rg, r1, r2, sb, gl, pa, ok, rY, st)) : wY_addRow_66 post p g a b fT fP fR fC fN fQ fW cm sr fG ar tc t0 t1 hg kd pA pB pC us rp rg r1 r2 sb gl pa ok rY st := by
  rcases z with z | ⟨⟨x, hx, rfl⟩, z⟩
  · exact br_c (fun _ => h) (fun w => br_t (bm_7lt (z.resolve_left w)) h)
  · exact br_f (bm_nge (by omega)) (br_f (bm_n7lt hx) (br_c (fun _ => h) (fun w => br_f (bm_nle7 (z.resolve_left w)) h)))
theorem yy_138 {post : Int32 → SY → Prop} {q : Nat} {g a b : Int32} (hq : q < 64) (hr : rN < 8) (h : post (nI (rN + 1) - 1) (fT, fP, fR, fC, fN, fQ, nI (rN + 1), cm, sr, fG, ar, tc, t0, t1, hg, kd, pA, pB, pC, upd us q 1, upd rp rN (nI q), upd rg rN g, upd r1 rN a, upd r2 rN b, sb, gl, pa, ok, rY, st)) : wY_addRow_138 post (nI q) g a b fT fP fR fC fN fQ (nI rN) cm sr fG ar tc t0 t1 hg kd pA pB pC us rp rg r1 r2 sb gl pa ok rY st := by
  have vr : vp_in (nI rN) 8 := vp_in_nI hr (by decide)
  have eu : upd us (nI q).toNatClampNeg (vp_nar .boolean 1) = upd us q 1 := by rw [nI_clamp (by omega), bm_vb1]
  exact ⟨vp_in_nI hq (by decide), nm_r eu ⟨vr, nm_r (bm_uq (by omega)) ⟨vr, nm_r (bm_uq (by omega)) ⟨vr, nm_r (bm_uq (by omega)) ⟨vr, nm_r (bm_uq (by omega)) (nm_r (nI_1 rN) h)⟩⟩⟩⟩⟩
end
theorem bm_GV_Rw {rp rg r1 r2 : Nat → Int32} {sz : Nat → Nat} {cN pN rN q : Nat} {g a b : Int32} (hq : q < pN) (hs : sz q ≤ 64) (h : bm_GV cN g a b) : bm_Rw (upd rp rN (nI q)) (upd rg rN g) (upd r1 rN a) (upd r2 rN b) sz pN rN := by
  refine ⟨q, hq, pk_us, hs, ?_⟩
  rw [pk_us, pk_us, pk_us]
  rcases h with rfl | ⟨e, x, y, hx, hy, rfl, rfl⟩ | ⟨rfl, x, c, hx, hc, rfl, rfl⟩ | ⟨rfl, x, hx, rfl⟩
  · exact Or.inl rfl
  · exact Or.inr (Or.inl ⟨x, y, e, hx, hy, rfl, rfl⟩)
  · exact Or.inr (Or.inr ⟨x, Or.inl rfl, hx, rfl⟩)
  · exact Or.inr (Or.inr ⟨x, Or.inr rfl, hx, rfl⟩)
theorem i_vc_addRow {k : Nat} {u : SX} {v : SY} (I : i_Rel k u v) (hk : k + 5 ≤ 2563) (v1 : Int32) (v2 : Int32) (v3 : Int32) (v4 : Int32) : wpX_addRow (fun r u' => wpY_addRow (fun r' v' => r' = r ∧ i_Rel (k + 5) u' v') v v1 v2 v3 v4) u v1 v2 v3 v4 := by
  obtain ⟨T, P, R, cN, tN, pN, rN, gN, cm, sr, pk, ar, tc, t0, t1, hX, kd, pl, pf, ps, us, fi, rp, rg, r1, r2, sb, gl, rb, pp, pt, hg, pA, pB, pC, pa, ok, rY, st, H, sz, rfl, rfl, J⟩ := I
  obtain ⟨hJ, hAr, hIP, hIT, hIF, hIR⟩ := id J
  have h8 : cN ≤ 8 := hJ.2.2.2.2.2.2.2
  have h6 := hIP.1
  refine br_c (fun a => br_c (fun b => br_t a (br_t b ⟨rfl, bm_mk J⟩)) (fun b => ?_)) (fun a => br_f a ⟨rfl, bm_mk J⟩)
  have hr : rN < R := by
    have : rN ≠ R := fun e => b (by rw [e])
    omega
  rcases bm_free us h6 v1 with ⟨q, hq, rfl, h0⟩ | z
  · refine xx_free_t hq h6 h0 (br_f bm_n10 (br_c (fun c => br_t a (br_f b (yy_fr_t hq h6 h0 (br_t c ⟨rfl, bm_mk J⟩)))) (fun c => br_c (fun d => ?_) (fun d => br_t a (br_f b (yy_fr_t hq h6 h0 (br_f c (br_f d ⟨rfl, bm_mk J⟩))))))))
    rcases bm_GVN h8 v3 v4 c d with gv | gn
    · have vr : vp_in (nI rN) 8 := vp_in_nI (by omega) (by decide)
      have eu : upd us (nI q).toNatClampNeg (vp_nar .boolean 1) = upd us q 1 := by rw [nI_clamp (by omega), bm_vb1]
      obtain ⟨hIP', hs⟩ := bm_IP_take hIP hq h0
      refine xx_ga_t h8 gv (br_f bm_n10 ⟨vr, nm_r (bm_uq (by omega)) ⟨vr, nm_r (bm_uq (by omega)) ⟨vr, nm_r (bm_uq (by omega)) ⟨vr, nm_r (bm_uq (by omega)) ⟨vp_in_nI (by omega) (by decide), nm_r eu (nm_r (nI_1 rN) ?_)⟩⟩⟩⟩⟩)
      have fin : wY_addRow_138 (fun r' v' => r' = nI rN ∧ i_Rel (k + 5) (nI T, nI P, nI R, nI cN, nI tN, nI pN, nI (rN + 1), cm, sr, nI gN, pk, ar, tc, t0, t1, hX, kd, pl, pf, ps, upd us q 1, fi, upd rp rN (nI q), upd rg rN v2, upd r1 rN v3, upd r2 rN v4, sb, gl, rb, pp, pt) v') (nI q) v2 v3 v4 (nI T) (nI P) (nI R) (nI cN) (nI tN) (nI pN) (nI rN) cm sr (nI gN) ar tc t0 t1 hg kd pA pB pC us rp rg r1 r2 sb gl pa ok rY st := by
        refine yy_138 (by omega) (by omega) ⟨nI_pred rN, bm_mk (H := H) (sz := sz) ?_⟩
        exact ⟨⟨hJ.1, hJ.2.1, hJ.2.2.1, hJ.2.2.2.1, hr, hJ.2.2.2.2.2⟩, hAr, hIP', hIT, hIF, bm_IR_new hIR (by omega) (bm_GV_Rw hq hs gv)⟩
      refine br_t a (br_f b (yy_fr_t hq h6 h0 (br_f c (br_t d (yy_ga_t h8 gv (fun e => ?_) fin)))))
      rcases gv with rfl | ⟨_, x, y, hx, hy, rfl, rfl⟩ | ⟨rfl, _⟩ | ⟨rfl, _⟩
      · rcases e with e | e <;> exact absurd e (by decide)
      · exact yy_66_t hx hy fin
      · rcases e with e | e <;> exact absurd e (by decide)
      · rcases e with e | e <;> exact absurd e (by decide)
    · refine xx_ga_f h8 gn (br_t rfl (br_t a (br_f b (yy_fr_t hq h6 h0 (br_f c (br_t d (yy_ga_f h8 gn (fun e => ?_) ⟨rfl, bm_mk J⟩)))))))
      rcases gn with ⟨_, z⟩ | ⟨rfl, _⟩ | ⟨rfl, _⟩
      · exact yy_66_f z ⟨rfl, bm_mk J⟩
      · rcases e with e | e <;> exact absurd e (by decide)
      · rcases e with e | e <;> exact absurd e (by decide)
  · exact xx_free_f h6 z (br_t rfl (br_t a (br_f b (yy_fr_f h6 z ⟨rfl, bm_mk J⟩))))
