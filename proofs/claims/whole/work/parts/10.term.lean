/-! the owed statement of term -/
theorem pk_least (P : Nat → Prop) (h : ∃ k, P k) : ∃ k, P k ∧ ∀ j, j < k → ¬ P j := by
  obtain ⟨k, hk⟩ := h
  induction k using Nat.strongRecOn with
  | ind k ih =>
    by_cases e : ∃ j, j < k ∧ P j
    · obtain ⟨j, hj, pj⟩ := e
      exact ih j hj pj
    · exact ⟨k, hk, fun j hj pj => e ⟨j, hj, pj⟩⟩
theorem bm_Tm_ar {ar tc t0 t1 hX : Nat → Int32} {H : Nat → Nat} {cN i c : Nat} (hcN : cN ≤ 8) (hc : c < cN) (h : bm_Tm ar tc t0 t1 hX H cN i) (e : tc i = nI c) : (ar c = 0 → t0 i = -1 ∧ t1 i = -1) ∧ (ar c = 1 → t1 i = -1) := by
  obtain ⟨d, hd, td, _, _, _, hk⟩ := h
  have := bm_ar hc hd hcN (e.symm.trans td)
  subst this
  rcases hk with ⟨b1, b2, b3, b4⟩ | ⟨j, b1, b2, b3, b4, b5⟩ | ⟨j, k, b1, b2, b3, b4, b5, b6⟩
  · exact ⟨fun _ => ⟨b2, b3⟩, fun _ => b3⟩
  · exact ⟨fun z => absurd (b1.symm.trans z) (by decide), fun _ => b2⟩
  · exact ⟨fun z => absurd (b1.symm.trans z) (by decide), fun z => absurd (b1.symm.trans z) (by decide)⟩
section
variable {fT fP fR fC fN fQ fW cm sr fG pk : Int32} {ar tc t0 t1 hX kd pl pf ps us fi rp rg r1 r2 sb gl rb pp pt hg pA pB pC pa ok rY st : Nat → Int32} {H sz : Nat → Nat} {cN pN tN rN c : Nat}
theorem xx_t0 {post : Int32 → SX → Prop} {p1 p2 : Int32} (hc : c < cN) (h8 : cN ≤ 8) (ea : ar c = 0) (h : wX_term_86 post (nI c) (-1) (-1) fT fP fR (nI cN) (nI tN) fQ fW cm sr fG pk ar tc t0 t1 hX kd pl pf ps us fi rp rg r1 r2 sb gl rb pp pt) : wpX_term post (fT, fP, fR, nI cN, nI tN, fQ, fW, cm, sr, fG, pk, ar, tc, t0, t1, hX, kd, pl, pf, ps, us, fi, rp, rg, r1, r2, sb, gl, rb, pp, pt) (nI c) p1 p2 := by
  have vc : vp_in (nI c) 8 := vp_in_nI (by omega) (by decide)
  have e : ar (nI c).toNatClampNeg = 0 := by rw [nI_clamp (by omega), ea]
  unfold wpX_term
  dsimp only
  exact xx_cons_t hc h8 (br_f bm_n10 ⟨vc, br_t (by rw [e]; decide) ⟨vc, br_f (by rw [e]; decide) ⟨vc, br_t (by rw [e]; decide) ⟨vc, br_f (by rw [e]; decide) h⟩⟩⟩⟩)
theorem xx_t1 {post : Int32 → SX → Prop} {p2 : Int32} {j : Nat} (hc : c < cN) (h8 : cN ≤ 8) (h6 : tN ≤ 64) (ea : ar c = 1) (hj : j < tN) (h : wX_term_86 post (nI c) (nI j) (-1) fT fP fR (nI cN) (nI tN) fQ fW cm sr fG pk ar tc t0 t1 hX kd pl pf ps us fi rp rg r1 r2 sb gl rb pp pt) : wpX_term post (fT, fP, fR, nI cN, nI tN, fQ, fW, cm, sr, fG, pk, ar, tc, t0, t1, hX, kd, pl, pf, ps, us, fi, rp, rg, r1, r2, sb, gl, rb, pp, pt) (nI c) (nI j) p2 := by
  have vc : vp_in (nI c) 8 := vp_in_nI (by omega) (by decide)
  have e : ar (nI c).toNatClampNeg = 1 := by rw [nI_clamp (by omega), ea]
  unfold wpX_term
  dsimp only
  exact xx_cons_t hc h8 (br_f bm_n10 ⟨vc, br_f (by rw [e]; decide) ⟨vc, br_f (by rw [e]; decide) ⟨vc, br_f (by rw [e]; decide) (xx_term_t hj h6 (br_f bm_n10 ⟨vc, br_f (by rw [e]; decide) h⟩))⟩⟩⟩)
theorem xx_t1b {post : Int32 → SX → Prop} {p1 p2 : Int32} (hc : c < cN) (h8 : cN ≤ 8) (ea : ar c = 1) (hb : p1 < 0 ∨ nI tN ≤ p1) (h : post (-1) (fT, fP, fR, nI cN, nI tN, fQ, fW, cm, sr, fG, pk, ar, tc, t0, t1, hX, kd, pl, pf, ps, us, fi, rp, rg, r1, r2, sb, gl, rb, pp, pt)) : wpX_term post (fT, fP, fR, nI cN, nI tN, fQ, fW, cm, sr, fG, pk, ar, tc, t0, t1, hX, kd, pl, pf, ps, us, fi, rp, rg, r1, r2, sb, gl, rb, pp, pt) (nI c) p1 p2 := by
  have vc : vp_in (nI c) 8 := vp_in_nI (by omega) (by decide)
  have e : ar (nI c).toNatClampNeg = 1 := by rw [nI_clamp (by omega), ea]
  unfold wpX_term
  dsimp only
  exact xx_cons_t hc h8 (br_f bm_n10 ⟨vc, br_f (by rw [e]; decide) ⟨vc, br_f (by rw [e]; decide) ⟨vc, br_f (by rw [e]; decide) (xx_term_f hb (br_t rfl h))⟩⟩⟩)
theorem xx_t2 {post : Int32 → SX → Prop} {j k : Nat} (hc : c < cN) (h8 : cN ≤ 8) (h6 : tN ≤ 64) (ea : ar c = 2) (hj : j < tN) (hk : k < tN) (h : wX_term_86 post (nI c) (nI j) (nI k) fT fP fR (nI cN) (nI tN) fQ fW cm sr fG pk ar tc t0 t1 hX kd pl pf ps us fi rp rg r1 r2 sb gl rb pp pt) : wpX_term post (fT, fP, fR, nI cN, nI tN, fQ, fW, cm, sr, fG, pk, ar, tc, t0, t1, hX, kd, pl, pf, ps, us, fi, rp, rg, r1, r2, sb, gl, rb, pp, pt) (nI c) (nI j) (nI k) := by
  have vc : vp_in (nI c) 8 := vp_in_nI (by omega) (by decide)
  have e : ar (nI c).toNatClampNeg = 2 := by rw [nI_clamp (by omega), ea]
  unfold wpX_term
  dsimp only
  exact xx_cons_t hc h8 (br_f bm_n10 ⟨vc, br_f (by rw [e]; decide) ⟨vc, br_t e ⟨vc, br_f (by rw [e]; decide) (xx_term_t hj h6 (br_f bm_n10 ⟨vc, br_t e (xx_term_t hk h6 (br_f bm_n10 h))⟩))⟩⟩⟩)
theorem xx_t2b {post : Int32 → SX → Prop} {p1 p2 : Int32} (hc : c < cN) (h8 : cN ≤ 8) (ea : ar c = 2) (hb : p1 < 0 ∨ nI tN ≤ p1) (h : post (-1) (fT, fP, fR, nI cN, nI tN, fQ, fW, cm, sr, fG, pk, ar, tc, t0, t1, hX, kd, pl, pf, ps, us, fi, rp, rg, r1, r2, sb, gl, rb, pp, pt)) : wpX_term post (fT, fP, fR, nI cN, nI tN, fQ, fW, cm, sr, fG, pk, ar, tc, t0, t1, hX, kd, pl, pf, ps, us, fi, rp, rg, r1, r2, sb, gl, rb, pp, pt) (nI c) p1 p2 := by
  have vc : vp_in (nI c) 8 := vp_in_nI (by omega) (by decide)
  have e : ar (nI c).toNatClampNeg = 2 := by rw [nI_clamp (by omega), ea]
  unfold wpX_term
  dsimp only
  exact xx_cons_t hc h8 (br_f bm_n10 ⟨vc, br_f (by rw [e]; decide) ⟨vc, br_t e ⟨vc, br_f (by rw [e]; decide) (xx_term_f hb (br_t rfl h))⟩⟩⟩)
theorem xx_t2c {post : Int32 → SX → Prop} {p2 : Int32} {j : Nat} (hc : c < cN) (h8 : cN ≤ 8) (h6 : tN ≤ 64) (ea : ar c = 2) (hj : j < tN) (hb : p2 < 0 ∨ nI tN ≤ p2) (h : post (-1) (fT, fP, fR, nI cN, nI tN, fQ, fW, cm, sr, fG, pk, ar, tc, t0, t1, hX, kd, pl, pf, ps, us, fi, rp, rg, r1, r2, sb, gl, rb, pp, pt)) : wpX_term post (fT, fP, fR, nI cN, nI tN, fQ, fW, cm, sr, fG, pk, ar, tc, t0, t1, hX, kd, pl, pf, ps, us, fi, rp, rg, r1, r2, sb, gl, rb, pp, pt) (nI c) (nI j) p2 := by
  have vc : vp_in (nI c) 8 := vp_in_nI (by omega) (by decide)
  have e : ar (nI c).toNatClampNeg = 2 := by rw [nI_clamp (by omega), ea]
  unfold wpX_term
  dsimp only
  exact xx_cons_t hc h8 (br_f bm_n10 ⟨vc, br_f (by rw [e]; decide) ⟨vc, br_t e ⟨vc, br_f (by rw [e]; decide) (xx_term_t hj h6 (br_f bm_n10 ⟨vc, br_t e (xx_term_f hb (br_t rfl h))⟩))⟩⟩⟩)
theorem yy_t0 {post : Int32 → SY → Prop} {p1 p2 : Int32} (hc : c < cN) (h8 : cN ≤ 8) (ea : ar c = 0) (h : ∃ n, wY_term_65 post (nI c) p1 p2 0 fT fP fR (nI cN) (nI tN) fQ fW cm sr fG ar tc t0 t1 hg kd pA pB pC us rp rg r1 r2 sb gl pa ok rY st n 0) : wpY_term post (fT, fP, fR, nI cN, nI tN, fQ, fW, cm, sr, fG, ar, tc, t0, t1, hg, kd, pA, pB, pC, us, rp, rg, r1, r2, sb, gl, pa, ok, rY, st) (nI c) p1 p2 :=
  br_f (bm_nge (by omega)) (br_t (nI_lt hc (by omega)) ⟨vp_in_nI (by omega) (by decide), nm_r ((congrArg ar (nI_clamp (by omega))).trans ea) (br_t (by decide) (br_f (by decide) h))⟩)
theorem yy_t1 {post : Int32 → SY → Prop} {p2 : Int32} {j : Nat} (hc : c < cN) (h8 : cN ≤ 8) (h6 : tN ≤ 64) (ea : ar c = 1) (hj : j < tN) (h : ∃ n, wY_term_65 post (nI c) (nI j) p2 1 fT fP fR (nI cN) (nI tN) fQ fW cm sr fG ar tc t0 t1 hg kd pA pB pC us rp rg r1 r2 sb gl pa ok rY st n 0) : wpY_term post (fT, fP, fR, nI cN, nI tN, fQ, fW, cm, sr, fG, ar, tc, t0, t1, hg, kd, pA, pB, pC, us, rp, rg, r1, r2, sb, gl, pa, ok, rY, st) (nI c) (nI j) p2 :=
  br_f (bm_nge (by omega)) (br_t (nI_lt hc (by omega)) ⟨vp_in_nI (by omega) (by decide), nm_r ((congrArg ar (nI_clamp (by omega))).trans ea) (br_f (by decide) (br_f (bm_nge (by omega)) (br_t (nI_lt hj (by omega)) (br_f (by decide) h))))⟩)
theorem yy_t2 {post : Int32 → SY → Prop} {j k : Nat} (hc : c < cN) (h8 : cN ≤ 8) (h6 : tN ≤ 64) (ea : ar c = 2) (hj : j < tN) (hk : k < tN) (h : ∃ n, wY_term_65 post (nI c) (nI j) (nI k) 2 fT fP fR (nI cN) (nI tN) fQ fW cm sr fG ar tc t0 t1 hg kd pA pB pC us rp rg r1 r2 sb gl pa ok rY st n 0) : wpY_term post (fT, fP, fR, nI cN, nI tN, fQ, fW, cm, sr, fG, ar, tc, t0, t1, hg, kd, pA, pB, pC, us, rp, rg, r1, r2, sb, gl, pa, ok, rY, st) (nI c) (nI j) (nI k) :=
  br_f (bm_nge (by omega)) (br_t (nI_lt hc (by omega)) ⟨vp_in_nI (by omega) (by decide), nm_r ((congrArg ar (nI_clamp (by omega))).trans ea) (br_f (by decide) (br_f (bm_nge (by omega)) (br_t (nI_lt hj (by omega)) (br_t rfl (br_f (bm_nge (by omega)) (br_t (nI_lt hk (by omega)) h))))))⟩)
theorem yy_tb {post : Int32 → SY → Prop} {p1 p2 A : Int32} (hc : c < cN) (h8 : cN ≤ 8) (h6 : tN ≤ 64) (ea : ar c = A) (hA : ¬ A < 1) (hb : p1 < 0 ∨ nI tN ≤ p1) (h : post (-1) (fT, fP, fR, nI cN, nI tN, fQ, fW, cm, sr, fG, ar, tc, t0, t1, hg, kd, pA, pB, pC, us, rp, rg, r1, r2, sb, gl, pa, ok, rY, st)) : wpY_term post (fT, fP, fR, nI cN, nI tN, fQ, fW, cm, sr, fG, ar, tc, t0, t1, hg, kd, pA, pB, pC, us, rp, rg, r1, r2, sb, gl, pa, ok, rY, st) (nI c) p1 p2 :=
  br_f (bm_nge (by omega)) (br_t (nI_lt hc (by omega)) ⟨vp_in_nI (by omega) (by decide), nm_r ((congrArg ar (nI_clamp (by omega))).trans ea) (br_f hA (br_c (fun _ => h) (fun z => br_f (Int32.not_lt.mpr (hb.resolve_left z)) h)))⟩)
theorem yy_tc {post : Int32 → SY → Prop} {p2 : Int32} {j : Nat} (hc : c < cN) (h8 : cN ≤ 8) (h6 : tN ≤ 64) (ea : ar c = 2) (hj : j < tN) (hb : p2 < 0 ∨ nI tN ≤ p2) (h : post (-1) (fT, fP, fR, nI cN, nI tN, fQ, fW, cm, sr, fG, ar, tc, t0, t1, hg, kd, pA, pB, pC, us, rp, rg, r1, r2, sb, gl, pa, ok, rY, st)) : wpY_term post (fT, fP, fR, nI cN, nI tN, fQ, fW, cm, sr, fG, ar, tc, t0, t1, hg, kd, pA, pB, pC, us, rp, rg, r1, r2, sb, gl, pa, ok, rY, st) (nI c) (nI j) p2 :=
  br_f (bm_nge (by omega)) (br_t (nI_lt hc (by omega)) ⟨vp_in_nI (by omega) (by decide), nm_r ((congrArg ar (nI_clamp (by omega))).trans ea) (br_f (by decide) (br_f (bm_nge (by omega)) (br_t (nI_lt hj (by omega)) (br_t rfl (br_c (fun _ => h) (fun z => br_f (Int32.not_lt.mpr (hb.resolve_left z)) h))))))⟩)
theorem yy_store {post : Int32 → SY → Prop} {f s x2 x3 A k : Int32} (h6 : tN < 64) (hf : (A < 1 ∧ f = -1) ∨ (¬ A < 1 ∧ f = x2)) (hs : (A = 2 ∧ s = x3) ∨ (¬ A = 2 ∧ s = -1))
    (h : post (nI (tN + 1) - 1) (fT, fP, fR, fC, nI (tN + 1), fQ, fW, cm, sr, fG, ar, upd tc tN k, upd t0 tN f, upd t1 tN s, hg, kd, pA, pB, pC, us, rp, rg, r1, r2, sb, gl, pa, ok, rY, st)) :
    ((A < 1 → wY_term_170 post x3 A (-1) (nI tN) fT fP fR fC (nI tN) fQ fW cm sr fG ar (upd tc tN k) t0 t1 hg kd pA pB pC us rp rg r1 r2 sb gl pa ok rY st) ∧ (¬ A < 1 → wY_term_170 post x3 A x2 (nI tN) fT fP fR fC (nI tN) fQ fW cm sr fG ar (upd tc tN k) t0 t1 hg kd pA pB pC us rp rg r1 r2 sb gl pa ok rY st)) := by
  have vi : vp_in (nI tN) 64 := vp_in_nI h6 (by decide)
  have K : wY_term_170 post x3 A f (nI tN) fT fP fR fC (nI tN) fQ fW cm sr fG ar (upd tc tN k) t0 t1 hg kd pA pB pC us rp rg r1 r2 sb gl pa ok rY st := by
    refine ⟨vi, nm_r (bm_uq (by omega)) ?_⟩
    rcases hs with ⟨a, b⟩ | ⟨a, b⟩
    · rw [b] at h
      exact br_t a ⟨vi, nm_r (bm_uq (by omega)) (nm_r (nI_1 tN) h)⟩
    · rw [b] at h
      exact br_f a ⟨vi, nm_r (bm_uq (by omega)) (nm_r (nI_1 tN) h)⟩
  rcases hf with ⟨a, b⟩ | ⟨a, b⟩
  · rw [b] at K
    exact br_t a K
  · rw [b] at K
    exact br_f a K
end
section
variable {T P R cN tN pN rN gN : Nat} {cm sr pk : Int32} {ar tc t0 t1 hX kd pl pf ps us fi rp rg r1 r2 sb gl rb pp pt hg pA pB pC pa ok rY st : Nat → Int32} {H sz : Nat → Nat}
theorem bm_term_tail {post : Int32 → SX → Prop} {k c g : Nat} {f s x2 x3 A : Int32} (J : bm_J T P R cN tN pN rN gN ar tc t0 t1 hX kd pl pf ps us fi rp rg r1 r2 pA pB pC H sz)
    (hYX : ∀ i, i < tN → (bm_YF tc t0 t1 (nI c) x2 x3 A i ↔ (tc i = nI c ∧ t0 i = f ∧ t1 i = s)))
    (hf : (A < 1 ∧ f = -1) ∨ (¬ A < 1 ∧ f = x2)) (hs : (A = 2 ∧ s = x3) ∨ (¬ A = 2 ∧ s = -1))
    (hh : ∀ post' : Int32 → Prop, post' (nI g) → wpX_heightAbove post' (nI T, nI P, nI R, nI cN, nI tN, nI pN, nI rN, cm, sr, nI gN, pk, ar, upd tc tN (nI c), upd t0 tN f, upd t1 tN s, hX, kd, pl, pf, ps, us, fi, rp, rg, r1, r2, sb, gl, rb, pp, pt) f s)
    (hnew : bm_Tm ar (upd tc tN (nI c)) (upd t0 tN f) (upd t1 tN s) (upd hX tN (nI g)) (bm_un H tN g) cN tN)
    (hpost : ∀ r u', (∃ n, wY_term_65 (fun r' v' => r' = r ∧ i_Rel k u' v') (nI c) x2 x3 A (nI T) (nI P) (nI R) (nI cN) (nI tN) (nI pN) (nI rN) cm sr (nI gN) ar tc t0 t1 hg kd pA pB pC us rp rg r1 r2 sb gl pa ok rY st n 0) → post r u') :
    wX_term_86 post (nI c) f s (nI T) (nI P) (nI R) (nI cN) (nI tN) (nI pN) (nI rN) cm sr (nI gN) pk ar tc t0 t1 hX kd pl pf ps us fi rp rg r1 r2 sb gl rb pp pt := by
  obtain ⟨hJ, hAr, hIP, hIT, hIF, hIR⟩ := id J
  have h6 := hIT.1
  unfold wX_term_86
  by_cases ex : ∃ i, i < tN ∧ (tc i = nI c ∧ t0 i = f ∧ t1 i = s)
  · obtain ⟨j, ⟨hj, hy⟩, hmin⟩ := pk_least _ ex
    have hno : ∀ i, i < j → ¬ (tc i = nI c ∧ t0 i = f ∧ t1 i = s) := fun i hi z => hmin i hi ⟨by omega, z⟩
    refine ⟨j + 1, xx_find_t h6 hj hno hy (br_f (bm_ne1 (by omega)) (hpost _ _ ⟨j + 1, ?_⟩)) j 0 (j + 1) (by omega) (by omega)⟩
    exact yy_find_t h6 hj (fun i hi z => hno i hi ((hYX i (by omega)).mp z)) ((hYX j hj).mpr hy) ⟨rfl, bm_mk J⟩ j 0 (j + 1) (by omega) (by omega)
  · have hno : ∀ i, i < tN → ¬ (tc i = nI c ∧ t0 i = f ∧ t1 i = s) := fun i hi z => ex ⟨i, hi, z⟩
    have hnoY : ∀ i, i < tN → ¬ bm_YF tc t0 t1 (nI c) x2 x3 A i := fun i hi z => hno i hi ((hYX i hi).mp z)
    refine ⟨tN + 1, xx_find_f h6 hno (br_t rfl (br_c (fun z => hpost _ _ ⟨tN + 1, ?_⟩) (fun z => ?_))) tN 0 (tN + 1) (by omega) (by omega)⟩
    · exact yy_find_f h6 hnoY (fun n => br_t (nI_le (Nat.le_refl _) (by omega)) (br_t z ⟨rfl, bm_mk J⟩)) tN 0 (tN + 1) (by omega) (by omega)
    · have hlt : tN < T := by
        have : tN ≠ T := fun e => z (by rw [e])
        omega
      refine xx_storeTerm hJ.2.2.2.2.2.2.2 hIP.1 (by omega) hIP.2.1 hIT hIF hh hnew (fun fi' hF => hpost _ _ ⟨tN + 1, ?_⟩)
      refine yy_find_f h6 hnoY (fun n => br_t (nI_le (Nat.le_refl _) (by omega)) (br_f z ⟨vp_in_nI (by omega) (by decide), nm_r (bm_uq (by omega)) (yy_store (by omega) hf hs ⟨nI_pred tN, bm_mk (H := bm_un H tN g) (sz := sz) ?_⟩)⟩)) tN 0 (tN + 1) (by omega) (by omega)
      exact ⟨⟨hlt, hJ.2⟩, hAr, hIP, bm_IT_new hIT (by omega) hnew, hF, hIR⟩
end
theorem i_vc_term {k : Nat} {u : SX} {v : SY} (I : i_Rel k u v) (hk : k + 5 ≤ 2563) (v1 : Int32) (v2 : Int32) (v3 : Int32) : wpX_term (fun r u' => wpY_term (fun r' v' => r' = r ∧ i_Rel (k + 5) u' v') v v1 v2 v3) u v1 v2 v3 := by
  obtain ⟨T, P, R, cN, tN, pN, rN, gN, cm, sr, pk, ar, tc, t0, t1, hX, kd, pl, pf, ps, us, fi, rp, rg, r1, r2, sb, gl, rb, pp, pt, hg, pA, pB, pC, pa, ok, rY, st, H, sz, rfl, rfl, J⟩ := I
  obtain ⟨hJ, hAr, hIP, hIT, hIF, hIR⟩ := id J
  have h6 := hIT.1
  have h8 : cN ≤ 8 := hJ.2.2.2.2.2.2.2
  have bad : ∀ p : Int32, (p < 0 ∨ nI tN ≤ p) ∨ ∃ j, j < tN ∧ p = nI j := by
    intro p
    rcases pk_ix p (n := tN) (by omega) with z | z | z
    · exact Or.inl (Or.inl z)
    · exact Or.inl (Or.inr z)
    · exact Or.inr z
  rcases pk_ix v1 (n := cN) (by omega) with z | z | ⟨c, hc, rfl⟩
  · unfold wpX_term
    exact xx_cons_f (Or.inl z) (br_t rfl (br_t z ⟨rfl, bm_mk J⟩))
  · unfold wpX_term
    exact xx_cons_f (Or.inr z) (br_t rfl (br_f (bm_nlt0 (by omega) z) (br_f (Int32.not_lt.mpr z) ⟨rfl, bm_mk J⟩)))
  rcases hAr c hc with ea | ea | ea
  · refine xx_t0 hc h8 ea (bm_term_tail (x2 := v2) (x3 := v3) (A := 0) (g := 1) J ?_ (Or.inl ⟨by decide, rfl⟩) (Or.inr ⟨by decide, rfl⟩) (fun _ h => xx_h0 h) ?_ (fun r u' h => yy_t0 hc h8 ea h))
    · intro i hi
      refine ⟨fun z => ⟨z.1, ((bm_Tm_ar h8 hc (hIT.2 i hi) z.1).1 ea).1, ((bm_Tm_ar h8 hc (hIT.2 i hi) z.1).1 ea).2⟩, fun z => ⟨z.1, Or.inl (by decide), Or.inl (by decide)⟩⟩
    · exact ⟨c, hc, pk_us, by rw [pk_us, bm_un_s], by rw [bm_un_s]; omega, by rw [bm_un_s]; omega, Or.inl ⟨ea, pk_us, pk_us, bm_un_s⟩⟩
  · rcases bad v2 with z | ⟨j, hj, rfl⟩
    · exact xx_t1b hc h8 ea z (yy_tb hc h8 h6 ea (by decide) z ⟨rfl, bm_mk J⟩)
    · obtain ⟨_, _, _, ej, hj1, hj2, _⟩ := hIT.2 j hj
      refine xx_t1 hc h8 h6 ea hj (bm_term_tail (x2 := nI j) (x3 := v3) (A := 1) (g := H j + 1) J ?_ (Or.inr ⟨by decide, rfl⟩) (Or.inr ⟨by decide, rfl⟩) (fun _ h => xx_h1 (by omega) ej h) ?_ (fun r u' h => yy_t1 hc h8 h6 ea hj h))
      · intro i hi
        refine ⟨fun z => ⟨z.1, z.2.1.resolve_left (by decide), (bm_Tm_ar h8 hc (hIT.2 i hi) z.1).2 ea⟩, fun z => ⟨z.1, Or.inr z.2.1, Or.inl (by decide)⟩⟩
      · exact ⟨c, hc, pk_us, by rw [pk_us, bm_un_s], by rw [bm_un_s]; omega, by rw [bm_un_s]; omega, Or.inr (Or.inl ⟨j, ea, pk_us, hj, pk_us, by rw [bm_un_s, bm_un_n (by omega)]⟩)⟩
  · rcases bad v2 with z | ⟨j, hj, rfl⟩
    · exact xx_t2b hc h8 ea z (yy_tb hc h8 h6 ea (by decide) z ⟨rfl, bm_mk J⟩)
    · rcases bad v3 with z | ⟨l, hl, rfl⟩
      · exact xx_t2c hc h8 h6 ea hj z (yy_tc hc h8 h6 ea hj z ⟨rfl, bm_mk J⟩)
      · obtain ⟨_, _, _, ej, hj1, hj2, _⟩ := hIT.2 j hj
        obtain ⟨_, _, _, el, hl1, hl2, _⟩ := hIT.2 l hl
        have hb : (if H j < H l then H l else H j) ≤ tN := by
          split <;> omega
        refine xx_t2 hc h8 h6 ea hj hl (bm_term_tail (x2 := nI j) (x3 := nI l) (A := 2) (g := (if H j < H l then H l else H j) + 1) J ?_ (Or.inr ⟨by decide, rfl⟩) (Or.inl ⟨rfl, rfl⟩) (fun _ h => xx_h2 (by omega) (by omega) ej el (by omega) (by omega) h) ?_ (fun r u' h => yy_t2 hc h8 h6 ea hj hl h))
        · intro i hi
          refine ⟨fun z => ⟨z.1, z.2.1.resolve_left (by decide), z.2.2.resolve_left (by decide)⟩, fun z => ⟨z.1, Or.inr z.2.1, Or.inr z.2.2⟩⟩
        · exact ⟨c, hc, pk_us, by rw [pk_us, bm_un_s], by rw [bm_un_s]; omega, by rw [bm_un_s]; omega, Or.inr (Or.inr ⟨j, l, ea, hj, hl, pk_us, pk_us, by rw [bm_un_s, bm_un_n (by omega), bm_un_n (by omega)]⟩)⟩
