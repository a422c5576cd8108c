/-! guards; the selected row -/
section
variable {fT fP fR fC fN fQ fW cm sr fG pk : Int32} {ar tc t0 t1 hX kd pl pf ps us fi rp rg r1 r2 sb gl rb pp pt hg pA pB pC pa ok rY st : Nat → Int32} {H sz : Nat → Nat} {cN pN tN rN : Nat}
theorem xx_pg {post : Int32 → SX → Prop} {r x gN : Nat} {g bx g2 : Int32} (hr : r < 8) (eg : rg r = g) (hg0 : ¬ g = 0) (e1 : r1 r = nI x) (hx : x < 8) (e2 : r2 r = g2) (eb : rb x = bx) (hG : gN < 8)
    (h0 : bx = -1 → post 0 (fT, fP, fR, fC, fN, fQ, fW, cm, sr, nI (gN + 1), pk, ar, tc, t0, t1, hX, kd, pl, pf, ps, us, fi, rp, rg, r1, r2, sb, upd gl gN (nI r), rb, pp, pt))
    (h1 : ¬ bx = -1 → wpX_guardHolds (fun v => ((v = 0 → post 0 (fT, fP, fR, fC, fN, fQ, fW, cm, sr, nI (gN + 1), pk, ar, tc, t0, t1, hX, kd, pl, pf, ps, us, fi, rp, rg, r1, r2, sb, upd gl gN (nI r), rb, pp, pt)) ∧ (¬ v = 0 → post 1 (fT, fP, fR, fC, fN, fQ, fW, cm, sr, nI (gN + 1), pk, ar, tc, t0, t1, hX, kd, pl, pf, ps, us, fi, rp, rg, r1, r2, sb, upd gl gN (nI r), rb, pp, pt)))) (fT, fP, fR, fC, fN, fQ, fW, cm, sr, nI (gN + 1), pk, ar, tc, t0, t1, hX, kd, pl, pf, ps, us, fi, rp, rg, r1, r2, sb, upd gl gN (nI r), rb, pp, pt) g bx g2) :
    wpX_passesGuard post (fT, fP, fR, fC, fN, fQ, fW, cm, sr, nI gN, pk, ar, tc, t0, t1, hX, kd, pl, pf, ps, us, fi, rp, rg, r1, r2, sb, gl, rb, pp, pt) (nI r) := by
  have vr : vp_in (nI r) 8 := vp_in_nI hr (by decide)
  have cr : (nI r).toNatClampNeg = r := nI_clamp (by omega)
  have q1 : r1 (nI r).toNatClampNeg = nI x := by rw [cr, e1]
  have qb : rb (r1 (nI r).toNatClampNeg).toNatClampNeg = bx := by rw [q1, nI_clamp (by omega), eb]
  have v1 : vp_in (r1 (nI r).toNatClampNeg) 8 := by
    rw [q1]
    exact vp_in_nI hx (by decide)
  have qg : rg (nI r).toNatClampNeg = g := by rw [cr, eg]
  have q2 : r2 (nI r).toNatClampNeg = g2 := by rw [cr, e2]
  refine ⟨vr, br_f (by rw [qg]; exact hg0) ⟨vp_in_nI hG (by decide), nm_r (bm_uq (by omega)) (nm_r (nI_1 gN) ⟨vr, v1, nm_r qb (br_c h0 (fun z => ⟨vr, vr, ?_⟩))⟩)⟩⟩
  rw [qg, q2]
  exact h1 z
theorem yy_gh {post : Int32 → SY → Prop} {r x : Nat} {g bx : Int32} (hr : r < 8) (eg : rg r = g) (e1 : r1 r = nI x) (hx : x < 8) (eb : rY x = bx)
    (h1 : g = 1 ∨ g = 2 → wY_guardHolds_29 post (nI r) g bx fT fP fR fC fN fQ fW cm sr fG ar tc t0 t1 hg kd pA pB pC us rp rg r1 r2 sb gl pa ok rY st)
    (h3 : ¬ (g = 1 ∨ g = 2) → ((0 ≤ bx → ((g = 3 → (vp_in bx 64 ∧ (vp_in (nI r) 8 ∧ (((tc bx.toNatClampNeg) = (r2 (nI r).toNatClampNeg) → (post 1 (fT, fP, fR, fC, fN, fQ, fW, cm, sr, fG, ar, tc, t0, t1, hg, kd, pA, pB, pC, us, rp, rg, r1, r2, sb, gl, pa, ok, rY, st))) ∧ (¬ (tc bx.toNatClampNeg) = (r2 (nI r).toNatClampNeg) → (post 0 (fT, fP, fR, fC, fN, fQ, fW, cm, sr, fG, ar, tc, t0, t1, hg, kd, pA, pB, pC, us, rp, rg, r1, r2, sb, gl, pa, ok, rY, st))))))) ∧ (¬ g = 3 → (wpY_computeHeights (fun u => match u with | (a1, a2, a3, a4, a5, a6, a7, a8, a9, a10, a11, a12, a13, a14, a15, a16, a17, a18, a19, a20, a21, a22, a23, a24, a25, a26, a27, a28, a29, a30) => (vp_in bx 64 ∧ (vp_in (nI r) 8 ∧ ((((a24 (nI r).toNatClampNeg) < (a15 bx.toNatClampNeg) → (post 0 (a1, a2, a3, a4, a5, a6, a7, a8, a9, a10, a11, a12, a13, a14, a15, a16, a17, a18, a19, a20, a21, a22, a23, a24, a25, a26, a27, a28, a29, a30))) ∧ (¬ (a24 (nI r).toNatClampNeg) < (a15 bx.toNatClampNeg) → (post 1 (a1, a2, a3, a4, a5, a6, a7, a8, a9, a10, a11, a12, a13, a14, a15, a16, a17, a18, a19, a20, a21, a22, a23, a24, a25, a26, a27, a28, a29, a30)))))))) (fT, fP, fR, fC, fN, fQ, fW, cm, sr, fG, ar, tc, t0, t1, hg, kd, pA, pB, pC, us, rp, rg, r1, r2, sb, gl, pa, ok, rY, st))))) ∧ (¬ 0 ≤ bx → post 0 (fT, fP, fR, fC, fN, fQ, fW, cm, sr, fG, ar, tc, t0, t1, hg, kd, pA, pB, pC, us, rp, rg, r1, r2, sb, gl, pa, ok, rY, st)))) :
    wpY_guardHolds post (fT, fP, fR, fC, fN, fQ, fW, cm, sr, fG, ar, tc, t0, t1, hg, kd, pA, pB, pC, us, rp, rg, r1, r2, sb, gl, pa, ok, rY, st) (nI r) := by
  have vr : vp_in (nI r) 8 := vp_in_nI hr (by decide)
  have cr : (nI r).toNatClampNeg = r := nI_clamp (by omega)
  have q1 : r1 (nI r).toNatClampNeg = nI x := by rw [cr, e1]
  have qb : rY (r1 (nI r).toNatClampNeg).toNatClampNeg = bx := by rw [q1, nI_clamp (by omega), eb]
  have v1 : vp_in (r1 (nI r).toNatClampNeg) 8 := by
    rw [q1]
    exact vp_in_nI hx (by decide)
  have qg : rg (nI r).toNatClampNeg = g := by rw [cr, eg]
  exact ⟨vr, nm_r qg ⟨vr, v1, nm_r qb (br_c (fun z => h1 (Or.inl z)) (fun z => br_c (fun w => h1 (Or.inr w)) (fun w => h3 (fun y => y.elim z w))))⟩⟩
theorem yy_29 {post : Int32 → SY → Prop} {r y : Nat} {g bx bY : Int32} (hr : r < 8) (e2 : r2 r = nI y) (hy : y < 8) (eb : rY y = bY)
    (h : ((bx < 0 → (post 0 (fT, fP, fR, fC, fN, fQ, fW, cm, sr, fG, ar, tc, t0, t1, hg, kd, pA, pB, pC, us, rp, rg, r1, r2, sb, gl, pa, ok, rY, st))) ∧ (¬ bx < 0 → (((0 ≤ bY → (((g = 1 → (((bx = bY → (post 1 (fT, fP, fR, fC, fN, fQ, fW, cm, sr, fG, ar, tc, t0, t1, hg, kd, pA, pB, pC, us, rp, rg, r1, r2, sb, gl, pa, ok, rY, st))) ∧ (¬ bx = bY → (post 0 (fT, fP, fR, fC, fN, fQ, fW, cm, sr, fG, ar, tc, t0, t1, hg, kd, pA, pB, pC, us, rp, rg, r1, r2, sb, gl, pa, ok, rY, st)))))) ∧ (¬ g = 1 → (((bx = bY → (post 0 (fT, fP, fR, fC, fN, fQ, fW, cm, sr, fG, ar, tc, t0, t1, hg, kd, pA, pB, pC, us, rp, rg, r1, r2, sb, gl, pa, ok, rY, st))) ∧ (¬ bx = bY → (post 1 (fT, fP, fR, fC, fN, fQ, fW, cm, sr, fG, ar, tc, t0, t1, hg, kd, pA, pB, pC, us, rp, rg, r1, r2, sb, gl, pa, ok, rY, st))))))))) ∧ (¬ 0 ≤ bY → (post 0 (fT, fP, fR, fC, fN, fQ, fW, cm, sr, fG, ar, tc, t0, t1, hg, kd, pA, pB, pC, us, rp, rg, r1, r2, sb, gl, pa, ok, rY, st)))))))) : wY_guardHolds_29 post (nI r) g bx fT fP fR fC fN fQ fW cm sr fG ar tc t0 t1 hg kd pA pB pC us rp rg r1 r2 sb gl pa ok rY st := by
  have vr : vp_in (nI r) 8 := vp_in_nI hr (by decide)
  have cr : (nI r).toNatClampNeg = r := nI_clamp (by omega)
  have q1 : r2 (nI r).toNatClampNeg = nI y := by rw [cr, e2]
  have qb : rY (r2 (nI r).toNatClampNeg).toNatClampNeg = bY := by rw [q1, nI_clamp (by omega), eb]
  have v1 : vp_in (r2 (nI r).toNatClampNeg) 8 := by
    rw [q1]
    exact vp_in_nI hy (by decide)
  exact ⟨vr, v1, nm_r qb h⟩
/-- one verdict, on both sides -/
theorem bm_guard {r : Nat} {B : Nat → Int32} (hcN : cN ≤ 8) (hT : bm_IT ar tc t0 t1 hX H cN tN) (hr : r < 8) (hw : bm_Rw rp rg r1 r2 sz pN r) (hg0 : ¬ rg r = 0) (hB : ∀ x, x < 8 → B x = -1 ∨ ∃ u, u < tN ∧ B x = nI u) :
    ∃ v : Int32, (v = 0 ∨ v = 1) ∧
      (∀ (post : Int32 → SX → Prop) (gN : Nat) (fT fP fR fC fN fQ fW cm sr pk : Int32) (kd pl pf ps us fi sb gl rb pp pt : Nat → Int32), gN < 8 → (∀ x, x < 8 → rb x = B x) → post v (fT, fP, fR, fC, fN, fQ, fW, cm, sr, nI (gN + 1), pk, ar, tc, t0, t1, hX, kd, pl, pf, ps, us, fi, rp, rg, r1, r2, sb, upd gl gN (nI r), rb, pp, pt) → wpX_passesGuard post (fT, fP, fR, fC, fN, fQ, fW, cm, sr, nI gN, pk, ar, tc, t0, t1, hX, kd, pl, pf, ps, us, fi, rp, rg, r1, r2, sb, gl, rb, pp, pt) (nI r)) ∧
      (∀ (post : Int32 → SY → Prop) (fT fP fR fC fQ fW cm sr fG : Int32) (kd pA pB pC us sb gl hg pa ok rY st : Nat → Int32), (∀ x, x < 8 → rY x = B x) → (∀ hg', post v (fT, fP, fR, fC, nI tN, fQ, fW, cm, sr, fG, ar, tc, t0, t1, hg', kd, pA, pB, pC, us, rp, rg, r1, r2, sb, gl, pa, ok, rY, st)) → wpY_guardHolds post (fT, fP, fR, fC, nI tN, fQ, fW, cm, sr, fG, ar, tc, t0, t1, hg, kd, pA, pB, pC, us, rp, rg, r1, r2, sb, gl, pa, ok, rY, st) (nI r)) := by
  have t6 := hT.1
  obtain ⟨q, hq, er, hs, hk⟩ := hw
  rcases hk with z | ⟨x, y, eg, hx, hy, e1, e2⟩ | ⟨x, eg, hx, e1⟩
  · exact absurd z hg0
  · have vy : vp_in (nI y) 8 := vp_in_nI hy (by decide)
    have cy : (nI y).toNatClampNeg = y := nI_clamp (by omega)
    have cr : (nI r).toNatClampNeg = r := nI_clamp (by omega)
    rcases hB x hx with bx | ⟨u, hu, bx⟩
    · refine ⟨0, Or.inl rfl, fun post gN fT fP fR fC fN fQ fW cm sr pk kd pl pf ps us fi sb gl rb pp pt hG hb h => ?_, fun post fT fP fR fC fQ fW cm sr fG kd pA pB pC us sb gl hg pa ok rY st hb h => ?_⟩
      · exact xx_pg hr rfl hg0 e1 hx e2 ((hb x hx).trans bx) hG (fun _ => h) (fun z => absurd rfl z)
      · exact yy_gh hr rfl e1 hx ((hb x hx).trans bx) (fun _ => yy_29 hr e2 hy rfl (br_t bm_n1lt (h hg))) (fun z => absurd eg z)
    · have nu : ¬ nI u = -1 := bm_ne1 (by omega)
      have pu : ¬ nI u < 0 := bm_nge (by omega)
      rcases eg with eg | eg
      · by_cases yx : B y = nI u
        · refine ⟨1, Or.inr rfl, fun post gN fT fP fR fC fN fQ fW cm sr pk kd pl pf ps us fi sb gl rb pp pt hG hb h => ?_, fun post fT fP fR fC fQ fW cm sr fG kd pA pB pC us sb gl hg pa ok rY st hb h => ?_⟩
          · exact xx_pg hr eg (by decide) e1 hx e2 ((hb x hx).trans bx) hG (fun z => absurd z nu) (fun _ => br_f (by decide) (br_f (by decide) (br_t rfl ⟨vy, br_t (by rw [cy, hb y hy]; exact yx) (br_f bm_n10 h)⟩)))
          · exact yy_gh hr eg e1 hx ((hb x hx).trans bx) (fun _ => yy_29 hr e2 hy ((hb y hy).trans yx) (br_f pu (br_t (nI_pos' (by omega)) (br_t rfl (br_t rfl (h hg)))))) (fun z => absurd (Or.inl rfl) z)
        · refine ⟨0, Or.inl rfl, fun post gN fT fP fR fC fN fQ fW cm sr pk kd pl pf ps us fi sb gl rb pp pt hG hb h => ?_, fun post fT fP fR fC fQ fW cm sr fG kd pA pB pC us sb gl hg pa ok rY st hb h => ?_⟩
          · exact xx_pg hr eg (by decide) e1 hx e2 ((hb x hx).trans bx) hG (fun z => absurd z nu) (fun _ => br_f (by decide) (br_f (by decide) (br_t rfl ⟨vy, br_f (by rw [cy, hb y hy]; exact yx) (br_t rfl h)⟩)))
          · exact yy_gh hr eg e1 hx ((hb x hx).trans bx) (fun _ => yy_29 hr e2 hy (hb y hy) (br_f pu (br_c (fun _ => br_t rfl (br_f (fun z => yx z.symm) (h hg))) (fun _ => h hg)))) (fun z => absurd (Or.inl rfl) z)
      · by_cases yn : B y = -1
        · refine ⟨0, Or.inl rfl, fun post gN fT fP fR fC fN fQ fW cm sr pk kd pl pf ps us fi sb gl rb pp pt hG hb h => ?_, fun post fT fP fR fC fQ fW cm sr fG kd pA pB pC us sb gl hg pa ok rY st hb h => ?_⟩
          · exact xx_pg hr eg (by decide) e1 hx e2 ((hb x hx).trans bx) hG (fun z => absurd z nu) (fun _ => br_f (by decide) (br_f (by decide) (br_f (by decide) (br_t rfl ⟨vy, br_t (by rw [cy, hb y hy]; exact yn) (br_t rfl h)⟩))))
          · exact yy_gh hr eg e1 hx ((hb x hx).trans bx) (fun _ => yy_29 hr e2 hy ((hb y hy).trans yn) (br_f pu (br_f bm_n1le (h hg)))) (fun z => absurd (Or.inr rfl) z)
        · have y0 : 0 ≤ B y := by
            rcases hB y hy with z | ⟨w, hw, z⟩
            · exact absurd z yn
            · rw [z]
              exact nI_pos' (by omega)
          by_cases yx : B y = nI u
          · refine ⟨0, Or.inl rfl, fun post gN fT fP fR fC fN fQ fW cm sr pk kd pl pf ps us fi sb gl rb pp pt hG hb h => ?_, fun post fT fP fR fC fQ fW cm sr fG kd pA pB pC us sb gl hg pa ok rY st hb h => ?_⟩
            · exact xx_pg hr eg (by decide) e1 hx e2 ((hb x hx).trans bx) hG (fun z => absurd z nu) (fun _ => br_f (by decide) (br_f (by decide) (br_f (by decide) (br_t rfl ⟨vy, br_f (by rw [cy, hb y hy]; exact yn) ⟨vy, br_t (by rw [cy, hb y hy]; exact yx) (br_t rfl h)⟩⟩))))
            · exact yy_gh hr eg e1 hx ((hb x hx).trans bx) (fun _ => yy_29 hr e2 hy (hb y hy) (br_f pu (br_t y0 (br_f (by decide) (br_t yx.symm (h hg)))))) (fun z => absurd (Or.inr rfl) z)
          · refine ⟨1, Or.inr rfl, fun post gN fT fP fR fC fN fQ fW cm sr pk kd pl pf ps us fi sb gl rb pp pt hG hb h => ?_, fun post fT fP fR fC fQ fW cm sr fG kd pA pB pC us sb gl hg pa ok rY st hb h => ?_⟩
            · exact xx_pg hr eg (by decide) e1 hx e2 ((hb x hx).trans bx) hG (fun z => absurd z nu) (fun _ => br_f (by decide) (br_f (by decide) (br_f (by decide) (br_t rfl ⟨vy, br_f (by rw [cy, hb y hy]; exact yn) ⟨vy, br_f (by rw [cy, hb y hy]; exact yx) (br_f bm_n10 h)⟩⟩))))
            · exact yy_gh hr eg e1 hx ((hb x hx).trans bx) (fun _ => yy_29 hr e2 hy (hb y hy) (br_f pu (br_t y0 (br_f (by decide) (br_f (fun z => yx z.symm) (h hg)))))) (fun z => absurd (Or.inr rfl) z)
  · have cr : (nI r).toNatClampNeg = r := nI_clamp (by omega)
    have vr : vp_in (nI r) 8 := vp_in_nI hr (by decide)
    rcases hB x hx with bx | ⟨u, hu, bx⟩
    · have ne : ¬ (rg r = 1 ∨ rg r = 2) := by
        rcases eg with e | e <;> (rw [e]; decide)
      refine ⟨0, Or.inl rfl, fun post gN fT fP fR fC fN fQ fW cm sr pk kd pl pf ps us fi sb gl rb pp pt hG hb h => ?_, fun post fT fP fR fC fQ fW cm sr fG kd pA pB pC us sb gl hg pa ok rY st hb h => ?_⟩
      · exact xx_pg hr rfl hg0 e1 hx rfl ((hb x hx).trans bx) hG (fun _ => h) (fun z => absurd rfl z)
      · exact yy_gh hr rfl e1 hx ((hb x hx).trans bx) (fun z => absurd z ne) (fun _ => br_f bm_n1le (h hg))
    · have nu : ¬ nI u = -1 := bm_ne1 (by omega)
      have cu : (nI u).toNatClampNeg = u := nI_clamp (by omega)
      have vu : vp_in (nI u) 64 := vp_in_nI (by omega) (by decide)
      have pu : (0 : Int32) ≤ nI u := nI_pos' (by omega)
      rcases eg with eg | eg
      · by_cases z : tc u = r2 r
        · refine ⟨1, Or.inr rfl, fun post gN fT fP fR fC fN fQ fW cm sr pk kd pl pf ps us fi sb gl rb pp pt hG hb h => ?_, fun post fT fP fR fC fQ fW cm sr fG kd pA pB pC us sb gl hg pa ok rY st hb h => ?_⟩
          · exact xx_pg hr eg (by decide) e1 hx rfl ((hb x hx).trans bx) hG (fun z => absurd z nu) (fun _ => br_f (by decide) (br_f (by decide) (br_f (by decide) (br_f (by decide) (br_t rfl ⟨vu, br_t (by rw [cu]; exact z) (br_f bm_n10 h)⟩)))))
          · exact yy_gh hr eg e1 hx ((hb x hx).trans bx) (fun z => absurd z (by decide)) (fun _ => br_t pu (br_t rfl ⟨vu, vr, br_t (by rw [cu, cr]; exact z) (h hg)⟩))
        · refine ⟨0, Or.inl rfl, fun post gN fT fP fR fC fN fQ fW cm sr pk kd pl pf ps us fi sb gl rb pp pt hG hb h => ?_, fun post fT fP fR fC fQ fW cm sr fG kd pA pB pC us sb gl hg pa ok rY st hb h => ?_⟩
          · exact xx_pg hr eg (by decide) e1 hx rfl ((hb x hx).trans bx) hG (fun z => absurd z nu) (fun _ => br_f (by decide) (br_f (by decide) (br_f (by decide) (br_f (by decide) (br_t rfl ⟨vu, br_f (by rw [cu]; exact z) (br_t rfl h)⟩)))))
          · exact yy_gh hr eg e1 hx ((hb x hx).trans bx) (fun z => absurd z (by decide)) (fun _ => br_t pu (br_t rfl ⟨vu, vr, br_f (by rw [cu, cr]; exact z) (h hg)⟩))
      · by_cases z : r2 r < hX u
        · refine ⟨0, Or.inl rfl, fun post gN fT fP fR fC fN fQ fW cm sr pk kd pl pf ps us fi sb gl rb pp pt hG hb h => ?_, fun post fT fP fR fC fQ fW cm sr fG kd pA pB pC us sb gl hg pa ok rY st hb h => ?_⟩
          · exact xx_pg hr eg (by decide) e1 hx rfl ((hb x hx).trans bx) hG (fun z => absurd z nu) (fun _ => br_f (by decide) (br_t (by decide) ⟨vu, br_t (by rw [cu]; exact z) (br_t rfl h)⟩))
          · exact yy_gh hr eg e1 hx ((hb x hx).trans bx) (fun z => absurd z (by decide)) (fun _ => br_t pu (br_f (by decide) (yy_heights hcN hT (fun hg' hh => ⟨vu, vr, br_t (by rw [cu, cr, hh u hu]; exact z) (h hg')⟩))))
        · refine ⟨1, Or.inr rfl, fun post gN fT fP fR fC fN fQ fW cm sr pk kd pl pf ps us fi sb gl rb pp pt hG hb h => ?_, fun post fT fP fR fC fQ fW cm sr fG kd pA pB pC us sb gl hg pa ok rY st hb h => ?_⟩
          · exact xx_pg hr eg (by decide) e1 hx rfl ((hb x hx).trans bx) hG (fun z => absurd z nu) (fun _ => br_f (by decide) (br_t (by decide) ⟨vu, br_f (by rw [cu]; exact z) (br_f bm_n10 h)⟩))
          · exact yy_gh hr eg e1 hx ((hb x hx).trans bx) (fun z => absurd z (by decide)) (fun _ => br_t pu (br_f (by decide) (yy_heights hcN hT (fun hg' hh => ⟨vu, vr, br_f (by rw [cu, cr, hh u hu]; exact z) (h hg')⟩))))
end
