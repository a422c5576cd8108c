/-! the owed statements of match, matchInOrder, rowPatternMatches -/
theorem i_vc_match {k : Nat} {u : SX} {v : SY} (I : i_Rel k u v) (hk : k + 5 ≤ 2563) (v1 : Int32) : wpX_match (fun r u' => wpY_match (fun r' v' => r' = r ∧ i_Rel (k + 5) u' v') v v1) u v1 := by
  obtain ⟨T, P, R, cN, tN, pN, rN, gN, cm, sr, pk, ar, tc, t0, t1, hX, kd, pl, pf, ps, us, fi, rp, rg, r1, r2, sb, gl, rb, pp, pt, hg, pA, pB, pC, pa, ok, rY, st, H, sz, rfl, rfl, J⟩ := I
  obtain ⟨res, h⟩ := bm_match (k := k + 5) (cm := cm) (sr := sr) (pk := pk) (sb := sb) (gl := gl) (rb := rb) (pp := pp) (pt := pt) (hg := hg) (pa := pa) (ok := ok) (rY := rY) (st := st) J v1
  unfold wpX_match
  dsimp only
  refine h _ (fun r u' r' v' => r' = r ∧ i_Rel (k + 5) u' v') (fun u' v' hR => ⟨rfl, hR⟩) (fun r u' hh => ?_)
  obtain ⟨a1, a2, a3, a4, a5, a6, a7, a8, a9, a10, a11, a12, a13, a14, a15, a16, a17, a18, a19, a20, a21, a22, a23, a24, a25, a26, a27, a28, a29, a30, a31⟩ := u'
  exact hh
theorem i_vc_matchInOrder {k : Nat} {u : SX} {v : SY} (I : i_Rel k u v) (hk : k + 5 ≤ 2563) (v1 : Int32) : wpX_matchInOrder (fun r u' => wpY_matchInOrder (fun r' v' => r' = r ∧ i_Rel (k + 5) u' v') v v1) u v1 := by
  obtain ⟨T, P, R, cN, tN, pN, rN, gN, cm, sr, pk, ar, tc, t0, t1, hX, kd, pl, pf, ps, us, fi, rp, rg, r1, r2, sb, gl, rb, pp, pt, hg, pA, pB, pC, pa, ok, rY, st, H, sz, rfl, rfl, J⟩ := I
  obtain ⟨res, h⟩ := bm_match (k := k + 5) (cm := cm) (sr := sr) (pk := pk) (sb := sb) (gl := gl) (rb := rb) (pp := pp) (pt := pt) (hg := hg) (pa := pa) (ok := ok) (rY := rY) (st := st) J v1
  unfold wpX_matchInOrder
  dsimp only
  refine h _ (fun r u' r' v' => match v' with | (a1, a2, a3, a4, a5, a6, a7, a8, a9, a10, a11, a12, a13, a14, a15, a16, a17, a18, a19, a20, a21, a22, a23, a24, a25, a26, a27, a28, a29, a30) => r' = r ∧ i_Rel (k + 5) u' (a1, a2, a3, a4, a5, a6, a7, a8, a9, a10, a11, a12, a13, a14, a15, a16, a17, a18, a19, a20, a21, a22, a23, a24, a25, a26, a27, a28, a29, a30)) (fun u' v' hR => ?_) (fun r u' hh => ?_)
  · obtain ⟨a1, a2, a3, a4, a5, a6, a7, a8, a9, a10, a11, a12, a13, a14, a15, a16, a17, a18, a19, a20, a21, a22, a23, a24, a25, a26, a27, a28, a29, a30⟩ := v'
    exact ⟨rfl, hR⟩
  · obtain ⟨a1, a2, a3, a4, a5, a6, a7, a8, a9, a10, a11, a12, a13, a14, a15, a16, a17, a18, a19, a20, a21, a22, a23, a24, a25, a26, a27, a28, a29, a30, a31⟩ := u'
    unfold wpY_matchInOrder
    exact hh
theorem i_vc_rowPatternMatches {k : Nat} {u : SX} {v : SY} (I : i_Rel k u v) (hk : k + 5 ≤ 2563) (v1 : Int32) (v2 : Int32) : wpX_rowPatternMatches (fun r => wpY_rowPatternMatches (fun r' v' => r' = r ∧ i_Rel (k + 5) u v') v v1 v2) u v1 v2 := by
  obtain ⟨T, P, R, cN, tN, pN, rN, gN, cm, sr, pk, ar, tc, t0, t1, hX, kd, pl, pf, ps, us, fi, rp, rg, r1, r2, sb, gl, rb, pp, pt, hg, pA, pB, pC, pa, ok, rY, st, H, sz, rfl, rfl, J⟩ := I
  obtain ⟨hJ, hAr, hIP, hIT, hIF, hIR⟩ := id J
  have h8 : cN ≤ 8 := hJ.2.2.2.2.2.2.2
  have t6 := hIT.1
  have h6 := hIP.1
  have r8 := hIR.1
  rcases pk_ix v1 (n := rN) (by omega) with z | z | ⟨r, hr, rfl⟩
  · exact br_t z (br_t z ⟨rfl, bm_mk J⟩)
  · exact br_f (bm_nlt0 (by omega) z) (br_f (Int32.not_lt.mpr z) (br_f (bm_nlt0 (by omega) z) (br_t z ⟨rfl, bm_mk J⟩)))
  have vr : vp_in (nI r) 8 := vp_in_nI (by omega) (by decide)
  obtain ⟨q, hq, er, hs, _⟩ := hIR.2 r hr
  have er' : rp (nI r).toNatClampNeg = nI q := by rw [nI_clamp (by omega), er]
  rcases pk_ix v2 (n := tN) (by omega) with z | z | ⟨t, ht, rfl⟩
  · exact br_f (bm_nge (by omega)) (br_t (nI_lt hr (by omega)) (xx_term_f (Or.inl z) (br_t rfl (br_f (bm_nge (by omega)) (br_f (nI_ge hr (by omega)) (br_t z ⟨rfl, bm_mk J⟩))))))
  · exact br_f (bm_nge (by omega)) (br_t (nI_lt hr (by omega)) (xx_term_f (Or.inr z) (br_t rfl (br_f (bm_nge (by omega)) (br_f (nI_ge hr (by omega)) (br_f (bm_nlt0 (by omega) z) (br_f (Int32.not_lt.mpr z) ⟨rfl, bm_mk J⟩)))))))
  · refine br_f (bm_nge (by omega)) (br_t (nI_lt hr (by omega)) (xx_term_t ht t6 (br_f bm_n10 ⟨vr, ?_⟩)))
    rw [er']
    refine xx_fits (by omega) (by omega) hIF.1 ⟨bm_01b (hIF.1 _), br_f (bm_nge (by omega)) (br_f (nI_ge hr (by omega)) (br_f (bm_nge (by omega)) (br_t (nI_lt ht (by omega)) ⟨vr, ?_⟩)))⟩
    rw [er']
    exact yy_matchPat h8 hIP hIT hIF hq ht (fun pa' ok' hM => ⟨bm_01b (hIF.1 _), rfl, bm_mk J⟩)
