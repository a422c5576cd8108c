/-! the relation, and the methods that need little -/
def bm_J (T P R cN tN pN rN gN : Nat) (ar tc t0 t1 hX kd pl pf ps us fi rp rg r1 r2 pA pB pC : Nat → Int32) (H sz : Nat → Nat) : Prop :=
  (tN ≤ T ∧ T ≤ 64 ∧ pN ≤ P ∧ P ≤ 64 ∧ rN ≤ R ∧ R ≤ 8 ∧ gN ≤ 8 ∧ cN ≤ 8) ∧ (∀ c, c < cN → ar c = 0 ∨ ar c = 1 ∨ ar c = 2) ∧
  bm_IP ar kd pl pf ps pA pB pC us sz cN pN ∧ bm_IT ar tc t0 t1 hX H cN tN ∧ bm_IF kd pl pf ps tc t0 t1 fi pN tN ∧ bm_IR rp rg r1 r2 sz pN rN
def i_Rel (k : Nat) (u : SX) (v : SY) : Prop :=
  ∃ (T P R cN tN pN rN gN : Nat) (cm sr pk : Int32) (ar tc t0 t1 hX kd pl pf ps us fi rp rg r1 r2 sb gl rb pp pt hg pA pB pC pa ok rY st : Nat → Int32) (H sz : Nat → Nat),
    u = (nI T, nI P, nI R, nI cN, nI tN, nI pN, nI rN, cm, sr, nI gN, pk, ar, tc, t0, t1, hX, kd, pl, pf, ps, us, fi, rp, rg, r1, r2, sb, gl, rb, pp, pt) ∧ v = (nI T, nI P, nI R, nI cN, nI tN, nI pN, nI rN, cm, sr, nI gN, ar, tc, t0, t1, hg, kd, pA, pB, pC, us, rp, rg, r1, r2, sb, gl, pa, ok, rY, st) ∧ bm_J T P R cN tN pN rN gN ar tc t0 t1 hX kd pl pf ps us fi rp rg r1 r2 pA pB pC H sz
theorem i_up {k : Nat} {u : SX} {v : SY} (h : i_Rel k u v) : i_Rel (k + 5) u v := h
theorem bm_nlt0 {x : Int32} {n : Nat} (hn : n < 2 ^ 31) (h : nI n ≤ x) : ¬ x < 0 := by
  intro z
  rw [Int32.le_iff_toInt_le, nI_toInt hn] at h
  rw [Int32.lt_iff_toInt_lt, show (0 : Int32).toInt = 0 from by decide] at z
  omega
theorem bm_nle7 {x : Int32} (h : nI 8 ≤ x) : ¬ x ≤ 7 := fun z => absurd (Int32.le_trans h z) (by decide)
theorem bm_7lt {x : Int32} (h : nI 8 ≤ x) : 7 < x := Int32.not_le.mp (bm_nle7 h)
theorem bm_le7 {a : Nat} (h : a < 8) : nI a ≤ 7 := nI_le (b := 7) (by omega) (by decide)
theorem bm_n7lt {a : Nat} (h : a < 8) : ¬ 7 < nI a := nI_nlt (a := 7) (by omega) (by decide)
section
variable {T P R cN tN pN rN gN : Nat} {cm sr pk : Int32} {ar tc t0 t1 hX kd pl pf ps us fi rp rg r1 r2 sb gl rb pp pt hg pA pB pC pa ok rY st : Nat → Int32} {H sz : Nat → Nat}
theorem bm_mk {k : Nat} (h : bm_J T P R cN tN pN rN gN ar tc t0 t1 hX kd pl pf ps us fi rp rg r1 r2 pA pB pC H sz) : i_Rel k (nI T, nI P, nI R, nI cN, nI tN, nI pN, nI rN, cm, sr, nI gN, pk, ar, tc, t0, t1, hX, kd, pl, pf, ps, us, fi, rp, rg, r1, r2, sb, gl, rb, pp, pt) (nI T, nI P, nI R, nI cN, nI tN, nI pN, nI rN, cm, sr, nI gN, ar, tc, t0, t1, hg, kd, pA, pB, pC, us, rp, rg, r1, r2, sb, gl, pa, ok, rY, st) :=
  ⟨T, P, R, cN, tN, pN, rN, gN, cm, sr, pk, ar, tc, t0, t1, hX, kd, pl, pf, ps, us, fi, rp, rg, r1, r2, sb, gl, rb, pp, pt, hg, pA, pB, pC, pa, ok, rY, st, H, sz, rfl, rfl, h⟩
end
theorem i_vc_compile {k : Nat} {u : SX} {v : SY} (I : i_Rel k u v) (hk : k + 5 ≤ 2563) : wpX_compile (fun r u' => wpY_compile (fun r' v' => r' = r ∧ i_Rel (k + 5) u' v') v) u := by
  obtain ⟨T, P, R, cN, tN, pN, rN, gN, cm, sr, pk, ar, tc, t0, t1, hX, kd, pl, pf, ps, us, fi, rp, rg, r1, r2, sb, gl, rb, pp, pt, hg, pA, pB, pC, pa, ok, rY, st, H, sz, rfl, rfl, J⟩ := I
  exact br_c (fun z => br_t z ⟨rfl, bm_mk J⟩) (fun z => br_f z ⟨rfl, bm_mk J⟩)
theorem i_vc_lastRow {k : Nat} {u : SX} {v : SY} (I : i_Rel k u v) (hk : k + 5 ≤ 2563) : wpX_lastRow (fun r => wpY_lastRow (fun r' => r' = r ∧ i_Rel (k + 5) u v) v) u := by
  obtain ⟨T, P, R, cN, tN, pN, rN, gN, cm, sr, pk, ar, tc, t0, t1, hX, kd, pl, pf, ps, us, fi, rp, rg, r1, r2, sb, gl, rb, pp, pt, hg, pA, pB, pC, pa, ok, rY, st, H, sz, rfl, rfl, J⟩ := I
  exact ⟨rfl, bm_mk J⟩
theorem i_vc_guardLogLength {k : Nat} {u : SX} {v : SY} (I : i_Rel k u v) (hk : k + 5 ≤ 2563) : wpX_guardLogLength (fun r => wpY_guardLogLength (fun r' => r' = r ∧ i_Rel (k + 5) u v) v) u := by
  obtain ⟨T, P, R, cN, tN, pN, rN, gN, cm, sr, pk, ar, tc, t0, t1, hX, kd, pl, pf, ps, us, fi, rp, rg, r1, r2, sb, gl, rb, pp, pt, hg, pA, pB, pC, pa, ok, rY, st, H, sz, rfl, rfl, J⟩ := I
  exact ⟨rfl, bm_mk J⟩
theorem i_vc_binding {k : Nat} {u : SX} {v : SY} (I : i_Rel k u v) (hk : k + 5 ≤ 2563) (v1 : Int32) : wpX_binding (fun r => wpY_binding (fun r' => r' = r ∧ i_Rel (k + 5) u v) v v1) u v1 := by
  obtain ⟨T, P, R, cN, tN, pN, rN, gN, cm, sr, pk, ar, tc, t0, t1, hX, kd, pl, pf, ps, us, fi, rp, rg, r1, r2, sb, gl, rb, pp, pt, hg, pA, pB, pC, pa, ok, rY, st, H, sz, rfl, rfl, J⟩ := I
  unfold wpX_binding
  dsimp only
  rcases pk_ix v1 (n := 8) (by decide) with z | z | ⟨j, hj, rfl⟩
  · exact xx_var_f (Or.inl z) (br_t rfl (br_t z ⟨rfl, bm_mk J⟩))
  · exact xx_var_f (Or.inr z) (br_t rfl (br_f (bm_nlt0 (by decide) z) (br_f (bm_nle7 z) ⟨rfl, bm_mk J⟩)))
  · exact xx_var_t hj (br_f bm_n10 ⟨vp_in_nI hj (by decide), br_f (bm_nge (by omega)) (br_t (bm_le7 hj) ⟨vp_in_nI hj (by decide), rfl, bm_mk J⟩)⟩)
theorem i_vc_guardLogAt {k : Nat} {u : SX} {v : SY} (I : i_Rel k u v) (hk : k + 5 ≤ 2563) (v1 : Int32) : wpX_guardLogAt (fun r => wpY_guardLogAt (fun r' => r' = r ∧ i_Rel (k + 5) u v) v v1) u v1 := by
  obtain ⟨T, P, R, cN, tN, pN, rN, gN, cm, sr, pk, ar, tc, t0, t1, hX, kd, pl, pf, ps, us, fi, rp, rg, r1, r2, sb, gl, rb, pp, pt, hg, pA, pB, pC, pa, ok, rY, st, H, sz, rfl, rfl, J⟩ := I
  have hg8 : gN ≤ 8 := J.1.2.2.2.2.2.2.1
  rcases pk_ix v1 (n := gN) (by omega) with z | z | ⟨j, hj, rfl⟩
  · exact br_t z (br_t z ⟨rfl, bm_mk J⟩)
  · exact br_f (bm_nlt0 (by omega) z) (br_t z (br_f (bm_nlt0 (by omega) z) (br_f (Int32.not_lt.mpr z) ⟨rfl, bm_mk J⟩)))
  · exact br_f (bm_nge (by omega)) (br_f (nI_ge hj (by omega)) ⟨vp_in_nI (by omega) (by decide), br_f (bm_nge (by omega)) (br_t (nI_lt hj (by omega)) ⟨vp_in_nI (by omega) (by decide), rfl, bm_mk J⟩)⟩)
theorem i_vc_count {k : Nat} {u : SX} {v : SY} (I : i_Rel k u v) (hk : k + 5 ≤ 2563) (v1 : Int32) : wpX_count (fun r => wpY_count (fun r' => r' = r ∧ i_Rel (k + 5) u v) v v1) u v1 := by
  obtain ⟨T, P, R, cN, tN, pN, rN, gN, cm, sr, pk, ar, tc, t0, t1, hX, kd, pl, pf, ps, us, fi, rp, rg, r1, r2, sb, gl, rb, pp, pt, hg, pA, pB, pC, pa, ok, rY, st, H, sz, rfl, rfl, J⟩ := I
  by_cases h0 : v1 = 0
  · subst h0
    exact br_f (by decide) (br_f (by decide) (br_t rfl (br_t rfl ⟨rfl, bm_mk J⟩)))
  by_cases h1 : v1 = 1
  · subst h1
    exact br_f (by decide) (br_f (by decide) (br_f h0 (br_t rfl (br_f h0 (br_t rfl ⟨rfl, bm_mk J⟩)))))
  by_cases h2 : v1 = 2
  · subst h2
    exact br_f (by decide) (br_f (by decide) (br_f h0 (br_f h1 (br_t rfl (br_f h0 (br_f h1 (br_t rfl ⟨rfl, bm_mk J⟩)))))))
  by_cases h3 : v1 = 3
  · subst h3
    exact br_f (by decide) (br_f (by decide) (br_f h0 (br_f h1 (br_f h2 (br_t rfl (br_f h0 (br_f h1 (br_f h2 (br_t rfl ⟨rfl, bm_mk J⟩)))))))))
  by_cases h4 : v1 = 4
  · subst h4
    exact br_f (by decide) (br_f (by decide) (br_f h0 (br_f h1 (br_f h2 (br_f h3 (br_t rfl (br_c (fun z => br_f h0 (br_f h1 (br_f h2 (br_f h3 (br_t rfl (br_t z ⟨rfl, bm_mk J⟩)))))) (fun z => br_f h0 (br_f h1 (br_f h2 (br_f h3 (br_t rfl (br_f z ⟨rfl, bm_mk J⟩))))))))))))) 
  · have y := fun (w : Int32) (e : w = -1) => (br_f h0 (br_f h1 (br_f h2 (br_f h3 (br_f h4 ⟨e.symm, bm_mk J⟩)))) : wpY_count (fun r' => r' = w ∧ i_Rel (k + 5) (nI T, nI P, nI R, nI cN, nI tN, nI pN, nI rN, cm, sr, nI gN, pk, ar, tc, t0, t1, hX, kd, pl, pf, ps, us, fi, rp, rg, r1, r2, sb, gl, rb, pp, pt) (nI T, nI P, nI R, nI cN, nI tN, nI pN, nI rN, cm, sr, nI gN, ar, tc, t0, t1, hg, kd, pA, pB, pC, us, rp, rg, r1, r2, sb, gl, pa, ok, rY, st)) (nI T, nI P, nI R, nI cN, nI tN, nI pN, nI rN, cm, sr, nI gN, ar, tc, t0, t1, hg, kd, pA, pB, pC, us, rp, rg, r1, r2, sb, gl, pa, ok, rY, st) v1)
    refine br_c (fun _ => y _ rfl) (fun z => br_c (fun _ => y _ rfl) (fun z4 => ?_))
    rcases bm_k5 z (Int32.not_lt.mp z4) with e | e | e | e | e
    · exact absurd e h0
    · exact absurd e h1
    · exact absurd e h2
    · exact absurd e h3
    · exact absurd e h4
theorem i_vc_defCons {k : Nat} {u : SX} {v : SY} (I : i_Rel k u v) (hk : k + 5 ≤ 2563) (v1 : Int32) : wpX_defCons (fun r u' => wpY_defCons (fun r' v' => r' = r ∧ i_Rel (k + 5) u' v') v v1) u v1 := by
  obtain ⟨T, P, R, cN, tN, pN, rN, gN, cm, sr, pk, ar, tc, t0, t1, hX, kd, pl, pf, ps, us, fi, rp, rg, r1, r2, sb, gl, rb, pp, pt, hg, pA, pB, pC, pa, ok, rY, st, H, sz, rfl, rfl, J⟩ := I
  have hJ := J.1
  refine br_c (fun a => br_t a ⟨rfl, bm_mk J⟩) (fun a => br_c (fun b => br_c (fun c => br_f a (br_t b (br_t c ⟨rfl, bm_mk J⟩))) (fun c => br_c (fun d => br_f a (br_t b (br_f c (br_t d ⟨rfl, bm_mk J⟩)))) (fun d => br_c (fun e => ?_) (fun e => br_f a (br_t b (br_f c (br_f d (br_f e ⟨rfl, bm_mk J⟩)))))))) (fun b => br_f a (br_f b ⟨rfl, bm_mk J⟩)))
  have ht : tN = 0 := by
    by_cases z : tN = 0
    · exact z
    · exact absurd (nI_lt (a := 0) (b := tN) (by omega) (by omega)) a
  have hp : pN = 0 := by
    by_cases z : pN = 0
    · exact z
    · exact absurd b (nI_nle (by omega) (by omega))
  have hc : cN < 8 := by
    have : cN ≠ 8 := fun z => c (by rw [z]; rfl)
    omega
  subst ht
  subst hp
  have vi : vp_in (nI cN) 8 := vp_in_nI hc (by decide)
  refine ⟨vi, nm_r (bm_uq (by omega)) (nm_r (nI_1 cN) (br_f a (br_t b (br_f c (br_f d (br_t e ⟨vi, nm_r (bm_uq (by omega)) (nm_r (nI_1 cN) ⟨nI_pred cN, ?_⟩)⟩))))))⟩
  refine bm_mk ⟨⟨hJ.1, hJ.2.1, hJ.2.2.1, hJ.2.2.2.1, hJ.2.2.2.2.1, hJ.2.2.2.2.2.1, hJ.2.2.2.2.2.2.1, by omega⟩, ?_, bm_IP_0 (sz := sz) J.2.2.1.2.2.2.2.2.1, bm_IT_0 (H := H), J.2.2.2.2.1, J.2.2.2.2.2⟩
  intro i hi
  by_cases z : i = cN
  · rw [z, pk_us]
    exact bm_k3 d e
  · rw [pk_un z]
    exact J.2.1 i (by omega)
