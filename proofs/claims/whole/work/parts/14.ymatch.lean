/-! matchPat of the reference -/
theorem bm_kids {ar tc t0 t1 hX : Nat → Int32} {H : Nat → Nat} {cN u c : Nat} (hcN : cN ≤ 8) (hc : c < cN) (h : bm_Tm ar tc t0 t1 hX H cN u) (e : tc u = nI c) :
    (ar c = 1 → ∃ j, j < u ∧ t0 u = nI j) ∧ (ar c = 2 → ∃ j k, j < u ∧ k < u ∧ t0 u = nI j ∧ t1 u = nI k) := by
  obtain ⟨d, hd, td, _, _, _, hk⟩ := h
  have := bm_ar hc hd hcN (e.symm.trans td)
  subst this
  rcases hk with ⟨b1, b2, b3, b4⟩ | ⟨j, b1, b2, b3, b4, b5⟩ | ⟨j, k, b1, b2, b3, b4, b5, b6⟩
  · exact ⟨fun z => absurd (b1.symm.trans z) (by decide), fun z => absurd (b1.symm.trans z) (by decide)⟩
  · exact ⟨fun _ => ⟨j, b3, b4⟩, fun z => absurd (b1.symm.trans z) (by decide)⟩
  · exact ⟨fun z => absurd (b1.symm.trans z) (by decide), fun _ => ⟨j, k, b2, b3, b4, b5⟩⟩
theorem bm_m10 : nI 0 + (-1) = -1 := by decide
section
variable {fT fP fR fC fN fQ fW cm sr fG pk : Int32} {ar tc t0 t1 hX kd pl pf ps us fi rp rg r1 r2 sb gl rb pp pt hg pA pB pC pa ok rY st : Nat → Int32} {H sz : Nat → Nat} {cN pN tN rN root t : Nat}
theorem yy_239 {post : Int32 → SY → Prop} (hcN : cN ≤ 8) (hP : bm_IP ar kd pl pf ps pA pB pC us sz cN pN) (hT : bm_IT ar tc t0 t1 hX H cN tN) (hF : bm_IF kd pl pf ps tc t0 t1 fi pN tN) (hr : root < pN)
    (h1 : bm_I1 kd pl pf ps tc t0 t1 pa tN root 0) (hV : bm_V pa tN) (hpost : ∀ ok', bm_I2 pa ok' fi tN (root + 1) → post (ok' root) (fT, fP, fR, fC, fN, fQ, fW, cm, sr, fG, ar, tc, t0, t1, hg, kd, pA, pB, pC, us, rp, rg, r1, r2, sb, gl, pa, ok', rY, st)) :
    ∀ (d i n : Nat) (ok : Nat → Int32), i + d = root + 1 → d < n → bm_I2 pa ok fi tN i → wY_matchPat_239 post (nI root) fT fP fR fC fN fQ fW cm sr fG n (nI i) ar tc t0 t1 hg kd pA pB pC us rp rg r1 r2 sb gl pa ok rY st := by
  have h6 := hP.1
  have t6 := hT.1
  intro d
  induction d with
  | zero =>
    intro i n ok hi hn h2
    obtain ⟨m, rfl⟩ : ∃ m, n = m + 1 := ⟨n - 1, by omega⟩
    have cr : (nI root).toNatClampNeg = root := nI_clamp (by omega)
    have e : i = root + 1 := by omega
    subst e
    refine br_t (nI_lt (by omega) (by omega)) ⟨vp_in_nI (by omega) (by decide), ?_, ?_⟩
    · rw [cr]
      exact bm_01b (h2.1 root (by omega))
    · rw [cr]
      exact hpost ok h2
  | succ d ih =>
    intro i n ok hi hn h2
    obtain ⟨m, rfl⟩ : ∃ m, n = m + 1 := ⟨n - 1, by omega⟩
    have vi : vp_in (nI i) 64 := vp_in_nI (by omega) (by decide)
    have ci : (nI i).toNatClampNeg = i := nI_clamp (by omega)
    rcases hV i (by omega) with e | ⟨u, hu, e⟩
    · exact br_f (nI_nlt (by omega) (by omega)) ⟨vi, nm_r ((congrArg pa ci).trans e) (br_f bm_n1le (nm_r (nI_1 i) (ih (i + 1) m ok (by omega) (by omega) (bm_I2_n h2 t6 e))))⟩
    · have nx : ∀ v, v = fi (i * 64 + u) → wY_matchPat_239 post (nI root) fT fP fR fC fN fQ fW cm sr fG m (nI (i + 1)) ar tc t0 t1 hg kd pA pB pC us rp rg r1 r2 sb gl pa (upd ok i v) rY st := fun v hv => ih (i + 1) m _ (by omega) (by omega) (bm_I2_s h2 t6 hu e hv hF.1)
      have e0 : upd ok (nI i).toNatClampNeg (vp_nar .boolean 0) = upd ok i 0 := by rw [ci, bm_vb0]
      have e1 : upd ok (nI i).toNatClampNeg (vp_nar .boolean 1) = upd ok i 1 := by rw [ci, bm_vb1]
      have cu : (nI u).toNatClampNeg = u := nI_clamp (by omega)
      have vu : vp_in (nI u) 64 := vp_in_nI (by omega) (by decide)
      have f01 := hF.1
      refine br_f (nI_nlt (by omega) (by omega)) ⟨vi, nm_r ((congrArg pa ci).trans e) (br_t (nI_pos' (by omega)) ⟨vi, ?_⟩)⟩
      rcases bm_L2_of hcN hP hT hF (by omega) hu (h1 i (by omega) (by omega) u hu e) h2 with ⟨ek, g⟩ | ⟨a, ek, ha, eB, g⟩ | ⟨c, ek, hc, ea, eA, g1, g2⟩ | ⟨c, a, ek, hc, ea, ha, eA, eB, g1, g2⟩ | ⟨c, a, b, ek, hc, ea, ha, hb, eA, eB, eC, g1, g2, g3⟩ | ⟨a, b, ek, ha, hb, eA, eB, g1, g2⟩
      · exact nm_r ((congrArg kd ci).trans ek) (br_t rfl ⟨vi, nm_r e1 (nm_r (nI_1 i) (nx 1 g.symm))⟩)
      · have cB : pB (nI i).toNatClampNeg = nI a := by rw [ci, eB]
        have vB : vp_in (pB (nI i).toNatClampNeg) 64 := by
          rw [cB]
          exact vp_in_nI (by omega) (by decide)
        refine nm_r ((congrArg kd ci).trans ek) (br_f (by decide) (br_t rfl ⟨vi, vB, vi, nm_r ?_ (nm_r (nI_1 i) (nx (ok a) g))⟩))
        rw [cB, ci, nI_clamp (by omega), bm_01n (h2.1 a (by omega))]
      · have cA : pA (nI i).toNatClampNeg = nI c := by rw [ci, eA]
        have vA : vp_in (pA (nI i).toNatClampNeg) 8 := by
          rw [cA]
          exact vp_in_nI (by omega) (by decide)
        have eq : ar (pA (nI i).toNatClampNeg).toNatClampNeg = 0 := by rw [cA, nI_clamp (by omega), ea]
        refine nm_r ((congrArg kd ci).trans ek) (br_f (by decide) (br_f (by decide) (br_t rfl ⟨vi, vA, nm_r eq ⟨vu, vi, br_c (fun z => br_t (by decide) (br_t (by decide) ⟨vi, nm_r e1 (nm_r (nI_1 i) (nx 1 (g1 ?_).symm))⟩)) (fun z => ⟨vi, nm_r e0 (nm_r (nI_1 i) (nx 0 (g2 ?_).symm))⟩)⟩⟩)))
        · rw [cu, cA] at z
          exact z
        · rw [cu, cA] at z
          exact z
      · have cA : pA (nI i).toNatClampNeg = nI c := by rw [ci, eA]
        have vA : vp_in (pA (nI i).toNatClampNeg) 8 := by
          rw [cA]
          exact vp_in_nI (by omega) (by decide)
        have cB : pB (nI i).toNatClampNeg = nI a := by rw [ci, eB]
        have vB : vp_in (pB (nI i).toNatClampNeg) 64 := by
          rw [cB]
          exact vp_in_nI (by omega) (by decide)
        have cO : ok (pB (nI i).toNatClampNeg).toNatClampNeg = ok a := by rw [cB, nI_clamp (by omega)]
        have eq : ar (pA (nI i).toNatClampNeg).toNatClampNeg = 1 := by rw [cA, nI_clamp (by omega), ea]
        refine nm_r ((congrArg kd ci).trans ek) (br_f (by decide) (br_f (by decide) (br_t rfl ⟨vi, vA, nm_r eq ⟨vu, vi, br_c (fun z => br_f (by decide) ⟨vi, vB, br_c (fun w => ⟨vi, nm_r e0 (nm_r (nI_1 i) (nx 0 ?_))⟩) (fun w => br_t (by decide) ⟨vi, nm_r e1 (nm_r (nI_1 i) (nx 1 ?_))⟩)⟩) (fun z => ⟨vi, nm_r e0 (nm_r (nI_1 i) (nx 0 (g2 ?_).symm))⟩)⟩⟩)))
        · rw [cu, cA] at z
          rw [cO] at w
          rw [← g1 z, w]
        · rw [cu, cA] at z
          rw [cO] at w
          rw [← g1 z]
          exact (bm_01t (h2.1 a (by omega)) w).symm
        · rw [cu, cA] at z
          exact z
      · have cA : pA (nI i).toNatClampNeg = nI c := by rw [ci, eA]
        have vA : vp_in (pA (nI i).toNatClampNeg) 8 := by
          rw [cA]
          exact vp_in_nI (by omega) (by decide)
        have cB : pB (nI i).toNatClampNeg = nI a := by rw [ci, eB]
        have vB : vp_in (pB (nI i).toNatClampNeg) 64 := by
          rw [cB]
          exact vp_in_nI (by omega) (by decide)
        have cC : pC (nI i).toNatClampNeg = nI b := by rw [ci, eC]
        have vC : vp_in (pC (nI i).toNatClampNeg) 64 := by
          rw [cC]
          exact vp_in_nI (by omega) (by decide)
        have cO : ok (pB (nI i).toNatClampNeg).toNatClampNeg = ok a := by rw [cB, nI_clamp (by omega)]
        have cP : ok (pC (nI i).toNatClampNeg).toNatClampNeg = ok b := by rw [cC, nI_clamp (by omega)]
        have eq : ar (pA (nI i).toNatClampNeg).toNatClampNeg = 2 := by rw [cA, nI_clamp (by omega), ea]
        refine nm_r ((congrArg kd ci).trans ek) (br_f (by decide) (br_f (by decide) (br_t rfl ⟨vi, vA, nm_r eq ⟨vu, vi, br_c (fun z => br_f (by decide) ⟨vi, vB, br_c (fun w => ⟨vi, nm_r e0 (nm_r (nI_1 i) (nx 0 ?_))⟩) (fun w => br_f (by decide) ⟨vi, vC, br_c (fun y => ⟨vi, nm_r e0 (nm_r (nI_1 i) (nx 0 ?_))⟩) (fun y => ⟨vi, nm_r e1 (nm_r (nI_1 i) (nx 1 ?_))⟩)⟩)⟩) (fun z => ⟨vi, nm_r e0 (nm_r (nI_1 i) (nx 0 (g3 ?_).symm))⟩)⟩⟩)))
        · rw [cu, cA] at z
          rw [cO] at w
          exact (g1 z w).symm
        · rw [cu, cA] at z
          rw [cO] at w
          rw [cP] at y
          rw [← g2 z w, y]
        · rw [cu, cA] at z
          rw [cO] at w
          rw [cP] at y
          rw [← g2 z w]
          exact (bm_01t (h2.1 b (by omega)) y).symm
        · rw [cu, cA] at z
          exact z
      · have cA : pA (nI i).toNatClampNeg = nI a := by rw [ci, eA]
        have vA : vp_in (pA (nI i).toNatClampNeg) 64 := by
          rw [cA]
          exact vp_in_nI (by omega) (by decide)
        have cB : pB (nI i).toNatClampNeg = nI b := by rw [ci, eB]
        have vB : vp_in (pB (nI i).toNatClampNeg) 64 := by
          rw [cB]
          exact vp_in_nI (by omega) (by decide)
        have cO : ok (pA (nI i).toNatClampNeg).toNatClampNeg = ok a := by rw [cA, nI_clamp (by omega)]
        have cP : ok (pB (nI i).toNatClampNeg).toNatClampNeg = ok b := by rw [cB, nI_clamp (by omega)]
        refine nm_r ((congrArg kd ci).trans ek) (br_f (by decide) (br_f (by decide) (br_f (by decide) ⟨vi, vA, br_c (fun w => ⟨vi, vB, br_c (fun y => ⟨vi, nm_r e0 (nm_r (nI_1 i) (nx 0 ?_))⟩) (fun y => ⟨vi, nm_r e1 (nm_r (nI_1 i) (nx 1 ?_))⟩)⟩) (fun w => ⟨vi, nm_r e1 (nm_r (nI_1 i) (nx 1 ?_))⟩)⟩)))
        · rw [cO] at w
          rw [cP] at y
          rw [← g2 w, y]
        · rw [cO] at w
          rw [cP] at y
          rw [← g2 w]
          exact (bm_01t (h2.1 b (by omega)) y).symm
        · rw [cO] at w
          exact (g1 w).symm
theorem yy_63 {post : Int32 → SY → Prop} (hcN : cN ≤ 8) (hP : bm_IP ar kd pl pf ps pA pB pC us sz cN pN) (hT : bm_IT ar tc t0 t1 hX H cN tN) (hr : root < pN)
    (hpost : ∀ pa', bm_V pa' tN → pa' root = nI t → bm_I1 kd pl pf ps tc t0 t1 pa' tN root 0 → ∃ n, wY_matchPat_239 post (nI root) fT fP fR fC fN fQ fW cm sr fG n 0 ar tc t0 t1 hg kd pA pB pC us rp rg r1 r2 sb gl pa' ok rY st) :
    ∀ (q n : Nat) (pa : Nat → Int32), q + 1 < n → q ≤ root → bm_V pa tN → pa root = nI t → bm_I1 kd pl pf ps tc t0 t1 pa tN root (q + 1) → wY_matchPat_63 post (nI root) fT fP fR fC fN fQ fW cm sr fG n (nI q) ar tc t0 t1 hg kd pA pB pC us rp rg r1 r2 sb gl pa ok rY st := by
  have h6 := hP.1
  have t6 := hT.1
  have hNd := hP.2.1
  intro q
  induction q with
  | zero =>
    intro n pa hn hq hV hrt hI
    obtain ⟨m, rfl⟩ : ∃ m, n = m + 1 + 1 := ⟨n - 2, by omega⟩
    have fin : ∀ pa', bm_V pa' tN → pa' root = nI t → bm_I1 kd pl pf ps tc t0 t1 pa' tN root 0 → ∀ x, x = nI 0 + (-1) → wY_matchPat_63 post (nI root) fT fP fR fC fN fQ fW cm sr fG (m + 1) x ar tc t0 t1 hg kd pA pB pC us rp rg r1 r2 sb gl pa' ok rY st := fun pa' a b c => nm_r bm_m10 (br_t bm_n1lt (hpost pa' a b c))
    have vi : vp_in (nI 0) 64 := vp_in_nI (by omega) (by decide)
    have ci : (nI 0).toNatClampNeg = 0 := nI_clamp (by omega)
    rcases hV 0 (by omega) with e | ⟨u, hu, e⟩
    · exact br_f (bm_nge (by omega)) ⟨vi, nm_r ((congrArg pa ci).trans e) (br_f bm_n1le (fin pa hV hrt (bm_I1_same hP hr hq hI (fun u hu e' => absurd (e.symm.trans e') (bm_ne1' (by omega))))))⟩
    · have cu : (nI u).toNatClampNeg = u := nI_clamp (by omega)
      have vu : vp_in (nI u) 64 := vp_in_nI (by omega) (by decide)
      refine br_f (bm_nge (by omega)) ⟨vi, nm_r ((congrArg pa ci).trans e) (br_t (nI_pos' (by omega)) ⟨vi, ?_⟩)⟩
      rcases hNd 0 (by omega) with ⟨ek, e1, e2⟩ | ⟨y, a, _, _, ha, _⟩ | ⟨c, ek, hc, ea, el, e1, e2, eA⟩ | ⟨c, a, _, _, _, ha, _⟩ | ⟨c, a, b, _, _, _, ha, _⟩ | ⟨a, b, _, ha, _⟩
      · exact nm_r ((congrArg kd ci).trans ek) (br_f (by decide) (br_f (by decide) (br_f (by decide) (fin pa hV hrt (bm_I1_same hP hr hq hI (fun _ _ _ => bm_Cd_0 ek))))))
      · omega
      · have cA : pA (nI 0).toNatClampNeg = nI c := by rw [ci, eA]
        have vA : vp_in (pA (nI 0).toNatClampNeg) 8 := by
          rw [cA]
          exact vp_in_nI (by omega) (by decide)
        have eq : ar (pA (nI 0).toNatClampNeg).toNatClampNeg = 0 := by rw [cA, nI_clamp (by omega), ea]
        have st := fin pa hV hrt (bm_I1_same hP hr hq hI (fun _ _ _ => bm_Cd_2 ek (fun _ => ⟨Or.inl e1, Or.inl e2⟩)))
        exact nm_r ((congrArg kd ci).trans ek) (br_f (by decide) (br_t rfl ⟨vu, vi, br_c (fun z => ⟨vi, vA, nm_r eq (br_t (by decide) (br_f (by decide) st))⟩) (fun z => st)⟩))
      · omega
      · omega
      · omega
  | succ q ih =>
    intro n pa hn hq hV hrt hI
    obtain ⟨m, rfl⟩ : ∃ m, n = m + 1 := ⟨n - 1, by omega⟩
    have fin : ∀ pa', bm_V pa' tN → pa' root = nI t → bm_I1 kd pl pf ps tc t0 t1 pa' tN root (q + 1) → ∀ x, x = nI (q + 1) + (-1) → wY_matchPat_63 post (nI root) fT fP fR fC fN fQ fW cm sr fG m x ar tc t0 t1 hg kd pA pB pC us rp rg r1 r2 sb gl pa' ok rY st := fun pa' a b c => nm_r (pk_m1 q) (ih m pa' (by omega) (by omega) a b c)
    have vi : vp_in (nI (q + 1)) 64 := vp_in_nI (by omega) (by decide)
    have ci : (nI (q + 1)).toNatClampNeg = q + 1 := nI_clamp (by omega)
    have rt : ∀ a v, a < q + 1 → upd pa a v root = nI t := fun a v ha => by
      rw [pk_un (by omega)]
      exact hrt
    rcases hV (q + 1) (by omega) with e | ⟨u, hu, e⟩
    · exact br_f (bm_nge (by omega)) ⟨vi, nm_r ((congrArg pa ci).trans e) (br_f bm_n1le (fin pa hV hrt (bm_I1_same hP hr hq hI (fun u hu e' => absurd (e.symm.trans e') (bm_ne1' (by omega))))))⟩
    · have cu : (nI u).toNatClampNeg = u := nI_clamp (by omega)
      have vu : vp_in (nI u) 64 := vp_in_nI (by omega) (by decide)
      refine br_f (bm_nge (by omega)) ⟨vi, nm_r ((congrArg pa ci).trans e) (br_t (nI_pos' (by omega)) ⟨vi, ?_⟩)⟩
      rcases hNd (q + 1) (by omega) with ⟨ek, e1, e2⟩ | ⟨y, a, ek, _, ha, _, e1, e2, _, eB⟩ | ⟨c, ek, hc, ea, el, e1, e2, eA⟩ | ⟨c, a, ek, hc, ea, ha, el, e1, e2, eA, eB⟩ | ⟨c, a, b, ek, hc, ea, ha, hb, hab, el, e1, e2, eA, eB, eC⟩ | ⟨a, b, ek, ha, hb, _, e1, e2, eA, eB⟩
      · exact nm_r ((congrArg kd ci).trans ek) (br_f (by decide) (br_f (by decide) (br_f (by decide) (fin pa hV hrt (bm_I1_same hP hr hq hI (fun _ _ _ => bm_Cd_0 ek))))))
      · have cB : pB (nI (q + 1)).toNatClampNeg = nI a := by rw [ci, eB]
        have vB : vp_in (pB (nI (q + 1)).toNatClampNeg) 64 := by
          rw [cB]
          exact vp_in_nI (by omega) (by decide)
        refine nm_r ((congrArg kd ci).trans ek) (br_t rfl ⟨vi, vB, nm_r ?_ (fin _ (bm_V_u hV (Or.inr ⟨u, hu, rfl⟩)) (rt a _ ha) (bm_I1_as hP t6 hr hq hI hu e ek e1 ha))⟩)
        rw [cB, nI_clamp (by omega)]
      · have cA : pA (nI (q + 1)).toNatClampNeg = nI c := by rw [ci, eA]
        have vA : vp_in (pA (nI (q + 1)).toNatClampNeg) 8 := by
          rw [cA]
          exact vp_in_nI (by omega) (by decide)
        have eq : ar (pA (nI (q + 1)).toNatClampNeg).toNatClampNeg = 0 := by rw [cA, nI_clamp (by omega), ea]
        have st := fin pa hV hrt (bm_I1_same hP hr hq hI (fun _ _ _ => bm_Cd_2 ek (fun _ => ⟨Or.inl e1, Or.inl e2⟩)))
        exact nm_r ((congrArg kd ci).trans ek) (br_f (by decide) (br_t rfl ⟨vu, vi, br_c (fun z => ⟨vi, vA, nm_r eq (br_t (by decide) (br_f (by decide) st))⟩) (fun z => st)⟩))
      · have cA : pA (nI (q + 1)).toNatClampNeg = nI c := by rw [ci, eA]
        have vA : vp_in (pA (nI (q + 1)).toNatClampNeg) 8 := by
          rw [cA]
          exact vp_in_nI (by omega) (by decide)
        have cB : pB (nI (q + 1)).toNatClampNeg = nI a := by rw [ci, eB]
        have vB : vp_in (pB (nI (q + 1)).toNatClampNeg) 64 := by
          rw [cB]
          exact vp_in_nI (by omega) (by decide)
        have eq : ar (pA (nI (q + 1)).toNatClampNeg).toNatClampNeg = 1 := by rw [cA, nI_clamp (by omega), ea]
        refine nm_r ((congrArg kd ci).trans ek) (br_f (by decide) (br_t rfl ⟨vu, vi, br_c (fun z => ⟨vi, vA, nm_r eq (br_f (by decide) ⟨vi, vu, vB, nm_r (e' := upd pa a (t0 u)) ?_ (br_f (by decide) ?_)⟩)⟩) (fun z => ?_)⟩))
        · rw [cB, cu, nI_clamp (by omega)]
        · rw [cu, cA] at z
          obtain ⟨j, hj, ej⟩ := (bm_kids hcN hc (hT.2 u hu) z).1 ea
          exact fin _ (bm_V_u hV (Or.inr ⟨j, by omega, ej⟩)) (rt a _ ha) (bm_I1_c1 hP t6 hr hq hI hu e ek e1 ha e2)
        · rw [cu, cA] at z
          refine fin pa hV hrt (bm_I1_same hP hr hq hI (fun u' hu' e' => bm_Cd_2 ek (fun y => ?_)))
          have := bm_u1 t6 hu hu' e e'
          subst this
          rw [el] at y
          exact absurd y.symm z
      · have cA : pA (nI (q + 1)).toNatClampNeg = nI c := by rw [ci, eA]
        have vA : vp_in (pA (nI (q + 1)).toNatClampNeg) 8 := by
          rw [cA]
          exact vp_in_nI (by omega) (by decide)
        have cB : pB (nI (q + 1)).toNatClampNeg = nI a := by rw [ci, eB]
        have vB : vp_in (pB (nI (q + 1)).toNatClampNeg) 64 := by
          rw [cB]
          exact vp_in_nI (by omega) (by decide)
        have cC : pC (nI (q + 1)).toNatClampNeg = nI b := by rw [ci, eC]
        have vC : vp_in (pC (nI (q + 1)).toNatClampNeg) 64 := by
          rw [cC]
          exact vp_in_nI (by omega) (by decide)
        have eq : ar (pA (nI (q + 1)).toNatClampNeg).toNatClampNeg = 2 := by rw [cA, nI_clamp (by omega), ea]
        refine nm_r ((congrArg kd ci).trans ek) (br_f (by decide) (br_t rfl ⟨vu, vi, br_c (fun z => ⟨vi, vA, nm_r eq (br_f (by decide) ⟨vi, vu, vB, nm_r (e' := upd pa a (t0 u)) ?_ (br_t rfl ⟨vi, vu, vC, nm_r (e' := upd (upd pa a (t0 u)) b (t1 u)) ?_ ?_⟩)⟩)⟩) (fun z => ?_)⟩))
        · rw [cB, cu, nI_clamp (by omega)]
        · rw [cC, cu, nI_clamp (by omega)]
        · rw [cu, cA] at z
          obtain ⟨j, l, hj, hl, ej, el'⟩ := (bm_kids hcN hc (hT.2 u hu) z).2 ea
          refine fin _ (bm_V_u (bm_V_u hV (Or.inr ⟨j, by omega, ej⟩)) (Or.inr ⟨l, by omega, el'⟩)) ?_ (bm_I1_c2 hP t6 hr hq hI hu e ek e1 ha e2 hb hab)
          rw [pk_un (by omega)]
          exact rt a _ ha
        · rw [cu, cA] at z
          refine fin pa hV hrt (bm_I1_same hP hr hq hI (fun u' hu' e' => bm_Cd_2 ek (fun y => ?_)))
          have := bm_u1 t6 hu hu' e e'
          subst this
          rw [el] at y
          exact absurd y.symm z
      · have cA : pA (nI (q + 1)).toNatClampNeg = nI a := by rw [ci, eA]
        have vA : vp_in (pA (nI (q + 1)).toNatClampNeg) 64 := by
          rw [cA]
          exact vp_in_nI (by omega) (by decide)
        have cB : pB (nI (q + 1)).toNatClampNeg = nI b := by rw [ci, eB]
        have vB : vp_in (pB (nI (q + 1)).toNatClampNeg) 64 := by
          rw [cB]
          exact vp_in_nI (by omega) (by decide)
        refine nm_r ((congrArg kd ci).trans ek) (br_f (by decide) (br_f (by decide) (br_t rfl ⟨vi, vA, nm_r (e' := upd pa a (nI u)) ?_ ⟨vi, vB, nm_r (e' := upd (upd pa a (nI u)) b (nI u)) ?_ (fin _ (bm_V_u (bm_V_u hV (Or.inr ⟨u, hu, rfl⟩)) (Or.inr ⟨u, hu, rfl⟩)) ?_ (bm_I1_or hP t6 hr hq hI hu e ek e1 ha e2 hb))⟩⟩)))
        · rw [cA, nI_clamp (by omega)]
        · rw [cB, nI_clamp (by omega)]
        · rw [pk_un (by omega)]
          exact rt a _ ha
theorem yy_m2 {post : Int32 → SY → Prop} (h6 : pN ≤ 64) (t6 : tN ≤ 64) (hr : root < pN) (ht : t < tN)
    (h : ∃ n, wY_matchPat_63 post (nI root) fT fP fR fC (nI tN) (nI pN) fW cm sr fG n (nI root) ar tc t0 t1 hg kd pA pB pC us rp rg r1 r2 sb gl (upd (bm_clr (-1) 64 pa) root (nI t)) (bm_clr 0 64 ok) rY st) :
    ∀ (d i n : Nat), i + d = 64 → d < n → wY_matchPat_2 post (nI root) (nI t) fT fP fR fC (nI tN) (nI pN) fW cm sr fG n (nI i) ar tc t0 t1 hg kd pA pB pC us rp rg r1 r2 sb gl (bm_clr (-1) i pa) (bm_clr 0 i ok) rY st := by
  intro d
  induction d with
  | zero =>
    intro i n hi hn
    obtain ⟨m, rfl⟩ : ∃ m, n = m + 1 := ⟨n - 1, by omega⟩
    have e : i = 64 := by omega
    subst e
    exact br_t (nI_le (a := 64) (Nat.le_refl _) (by decide)) (br_f (bm_nge (by omega)) (br_f (nI_ge hr (by omega)) (br_f (bm_nge (by omega)) (br_t (nI_lt ht (by omega)) ⟨vp_in_nI (by omega) (by decide), nm_r (bm_uq (by omega)) h⟩))))
  | succ d ih =>
    intro i n hi hn
    obtain ⟨m, rfl⟩ : ∃ m, n = m + 1 := ⟨n - 1, by omega⟩
    have vi : vp_in (nI i) 64 := vp_in_nI (by omega) (by decide)
    refine br_f (nI_ge (b := 64) (by omega) (by decide)) ⟨vi, nm_r ((bm_uq (by omega)).trans bm_clr_s) ⟨vi, nm_r ?_ (nm_r (nI_1 i) (ih (i + 1) m (by omega) (by omega)))⟩⟩
    rw [bm_vb0]
    exact (bm_uq (by omega)).trans bm_clr_s
theorem yy_matchPat {post : Int32 → SY → Prop} (hcN : cN ≤ 8) (hP : bm_IP ar kd pl pf ps pA pB pC us sz cN pN) (hT : bm_IT ar tc t0 t1 hX H cN tN) (hF : bm_IF kd pl pf ps tc t0 t1 fi pN tN) (hr : root < pN) (ht : t < tN)
    (hpost : ∀ pa' ok', bm_MP kd pl pf ps tc t0 t1 fi pa' ok' tN root t → post (fi (root * 64 + t)) (fT, fP, fR, fC, nI tN, nI pN, fW, cm, sr, fG, ar, tc, t0, t1, hg, kd, pA, pB, pC, us, rp, rg, r1, r2, sb, gl, pa', ok', rY, st)) : wpY_matchPat post (fT, fP, fR, fC, nI tN, nI pN, fW, cm, sr, fG, ar, tc, t0, t1, hg, kd, pA, pB, pC, us, rp, rg, r1, r2, sb, gl, pa, ok, rY, st) (nI root) (nI t) := by
  have h6 := hP.1
  have t6 := hT.1
  have L : ∃ n, wY_matchPat_63 post (nI root) fT fP fR fC (nI tN) (nI pN) fW cm sr fG n (nI root) ar tc t0 t1 hg kd pA pB pC us rp rg r1 r2 sb gl (upd (bm_clr (-1) 64 pa) root (nI t)) (bm_clr 0 64 ok) rY st := by
    refine ⟨root + 2, yy_63 (t := t) hcN hP hT hr (fun pa' hV hrt hI => ⟨root + 2, yy_239 hcN hP hT hF hr hI hV (fun ok' h2 => ?_) (root + 1) 0 (root + 2) _ (by omega) (by omega) ?_⟩) root (root + 2) _ (by omega) (Nat.le_refl _) ?_ pk_us ?_⟩
    · rw [h2.2 root (by omega) t ht hrt]
      exact hpost pa' ok' ⟨hrt, hI, h2⟩
    · refine ⟨fun j hj => ?_, fun q hq => absurd hq (Nat.not_lt_zero _)⟩
      rw [bm_clr_l hj]
      exact Or.inl rfl
    · refine bm_V_u (fun i hi => ?_) (Or.inr ⟨t, ht, rfl⟩)
      rw [bm_clr_l hi]
      exact Or.inl rfl
    · intro q hq hq'
      omega
  have K := yy_m2 h6 t6 hr ht L 64 0 65 (by omega) (by omega)
  rw [bm_clr0, bm_clr0] at K
  exact ⟨65, K⟩
end
