/-! results cleared; construction; reset; heights -/
section
variable {fT fP fR fC fN fQ fW cm sr fG pk : Int32} {ar tc t0 t1 hX kd pl pf ps us fi rp rg r1 r2 sb gl rb pp pt hg pA pB pC pa ok rY st : Nat → Int32} {H sz : Nat → Nat} {cN pN tN rN : Nat}
theorem xx_clr7 {post : SX → Prop} (h : post (fT, fP, fR, fC, fN, fQ, fW, cm, sr, 0, pk, ar, tc, t0, t1, hX, kd, pl, pf, ps, us, fi, rp, rg, r1, r2, bm_clr (-1) 8 sb, gl, rb, pp, pt)) : ∀ (d i n : Nat), i + d = 8 → d < n → wX_clearResults_7 post fT fP fR fC fN fQ fW cm sr fG pk n (nI i) ar tc t0 t1 hX kd pl pf ps us fi rp rg r1 r2 (bm_clr (-1) i sb) gl rb pp pt := by
  intro d
  induction d with
  | zero =>
    intro i n hi hn
    obtain ⟨m, rfl⟩ : ∃ m, n = m + 1 := ⟨n - 1, by omega⟩
    have e : i = 8 := by omega
    subst e
    exact br_t (nI_le (a := 8) (Nat.le_refl _) (by decide)) h
  | succ d ih =>
    intro i n hi hn
    obtain ⟨m, rfl⟩ : ∃ m, n = m + 1 := ⟨n - 1, by omega⟩
    exact br_f (nI_ge (b := 8) (by omega) (by decide)) ⟨vp_in_nI (by omega) (by decide), nm_r ((bm_uq (by omega)).trans bm_clr_s) (nm_r (nI_1 i) (ih (i + 1) m (by omega) (by omega)))⟩
theorem xx_clear {post : SX → Prop} (h : post (fT, fP, fR, fC, fN, fQ, fW, cm, (-1), 0, pk, ar, tc, t0, t1, hX, kd, pl, pf, ps, us, fi, rp, rg, r1, r2, bm_clr (-1) 8 sb, gl, rb, pp, pt)) : wpX_clearResults post (fT, fP, fR, fC, fN, fQ, fW, cm, sr, fG, pk, ar, tc, t0, t1, hX, kd, pl, pf, ps, us, fi, rp, rg, r1, r2, sb, gl, rb, pp, pt) := by
  have k := xx_clr7 (fG := fG) h 8 0 9 rfl (by decide)
  rw [bm_clr0] at k
  exact ⟨9, k⟩
theorem yy_clr7 {post : SY → Prop} (h : post (fT, fP, fR, fC, fN, fQ, fW, cm, sr, 0, ar, tc, t0, t1, hg, kd, pA, pB, pC, us, rp, rg, r1, r2, bm_clr (-1) 8 sb, gl, pa, ok, rY, st)) : ∀ (d i n : Nat), i + d = 8 → d < n → wY_clearResults_7 post fT fP fR fC fN fQ fW cm sr fG n (nI i) ar tc t0 t1 hg kd pA pB pC us rp rg r1 r2 (bm_clr (-1) i sb) gl pa ok rY st := by
  intro d
  induction d with
  | zero =>
    intro i n hi hn
    obtain ⟨m, rfl⟩ : ∃ m, n = m + 1 := ⟨n - 1, by omega⟩
    have e : i = 8 := by omega
    subst e
    exact br_t (nI_le (a := 8) (Nat.le_refl _) (by decide)) h
  | succ d ih =>
    intro i n hi hn
    obtain ⟨m, rfl⟩ : ∃ m, n = m + 1 := ⟨n - 1, by omega⟩
    exact br_f (nI_ge (b := 8) (by omega) (by decide)) ⟨vp_in_nI (by omega) (by decide), nm_r ((bm_uq (by omega)).trans bm_clr_s) (nm_r (nI_1 i) (ih (i + 1) m (by omega) (by omega)))⟩
theorem yy_clear {post : SY → Prop} (h : post (fT, fP, fR, fC, fN, fQ, fW, cm, (-1), 0, ar, tc, t0, t1, hg, kd, pA, pB, pC, us, rp, rg, r1, r2, bm_clr (-1) 8 sb, gl, pa, ok, rY, st)) : wpY_clearResults post (fT, fP, fR, fC, fN, fQ, fW, cm, sr, fG, ar, tc, t0, t1, hg, kd, pA, pB, pC, us, rp, rg, r1, r2, sb, gl, pa, ok, rY, st) := by
  have k := yy_clr7 (fG := fG) h 8 0 9 rfl (by decide)
  rw [bm_clr0] at k
  exact ⟨9, k⟩
/-- the reference's heights -/
theorem yy_60n {post : SY → Prop} {J2 : Int32 → (Nat → Int32) → (Nat → Int32) → (Nat → Int32) → (Nat → Int32) → (Nat → Int32) → (Nat → Int32) → (Nat → Int32) → (Nat → Int32) → (Nat → Int32) → (Nat → Int32) → (Nat → Int32) → (Nat → Int32) → (Nat → Int32) → (Nat → Int32) → (Nat → Int32) → (Nat → Int32) → (Nat → Int32) → (Nat → Int32) → (Nat → Int32) → (Nat → Int32) → Prop} {i : Nat} {x2 x3 : Int32} (hi : i < 64) (h2 : ¬ x2 = 2)
    (h : J2 (nI (i + 1)) ar tc t0 t1 (upd hg i x3) kd pA pB pC us rp rg r1 r2 sb gl pa ok rY st) : wY_computeHeights_60 post J2 (nI i) x2 x3 fT fP fR fC fN fQ fW cm sr fG ar tc t0 t1 hg kd pA pB pC us rp rg r1 r2 sb gl pa ok rY st :=
  br_f h2 ⟨vp_in_nI hi (by decide), nm_r (bm_uq (by omega)) (nm_r (nI_1 i) h)⟩
theorem yy_60s {post : SY → Prop} {J2 : Int32 → (Nat → Int32) → (Nat → Int32) → (Nat → Int32) → (Nat → Int32) → (Nat → Int32) → (Nat → Int32) → (Nat → Int32) → (Nat → Int32) → (Nat → Int32) → (Nat → Int32) → (Nat → Int32) → (Nat → Int32) → (Nat → Int32) → (Nat → Int32) → (Nat → Int32) → (Nat → Int32) → (Nat → Int32) → (Nat → Int32) → (Nat → Int32) → (Nat → Int32) → Prop} {i k a b : Nat} (hi : i < 64) (hk : k < 64) (ek : t1 i = nI k) (eb : hg k = nI b) (ha : a < 2 ^ 20) (hb : b < 2 ^ 20)
    (h : J2 (nI (i + 1)) ar tc t0 t1 (upd hg i (nI (if a < b then b + 1 else a + 1))) kd pA pB pC us rp rg r1 r2 sb gl pa ok rY st) : wY_computeHeights_60 post J2 (nI i) 2 (nI (a + 1)) fT fP fR fC fN fQ fW cm sr fG ar tc t0 t1 hg kd pA pB pC us rp rg r1 r2 sb gl pa ok rY st := by
  have vi : vp_in (nI i) 64 := vp_in_nI hi (by decide)
  have ci : (nI i).toNatClampNeg = i := nI_clamp (by omega)
  have ck : (nI k).toNatClampNeg = k := nI_clamp (by omega)
  have e1 : t1 (nI i).toNatClampNeg = nI k := by rw [ci, ek]
  have e2 : hg (t1 (nI i).toNatClampNeg).toNatClampNeg + 1 = nI (b + 1) := by rw [e1, ck, eb, nI_1]
  have vk : vp_in (t1 (nI i).toNatClampNeg) 64 := by
    rw [e1]
    exact vp_in_nI hk (by decide)
  refine br_t rfl ⟨vi, vk, ?_⟩
  by_cases z : a < b
  · rw [if_pos z] at h
    refine br_f ?_ ⟨vi, vk, nm_r e2 ⟨vi, nm_r (bm_uq (by omega)) (nm_r (nI_1 i) h)⟩⟩
    rw [e2]
    exact nI_ge (by omega) (by omega)
  · rw [if_neg z] at h
    refine br_t ?_ ⟨vi, nm_r (bm_uq (by omega)) (nm_r (nI_1 i) h)⟩
    rw [e2]
    exact nI_le (by omega) (by omega)
theorem bm_hs {hg hX : Nat → Int32} {i : Nat} {v : Int32} (h : ∀ j, j < i → hg j = hX j) (hv : hX i = v) : ∀ j, j < i + 1 → upd hg i v j = hX j := by
  intro j hj
  by_cases e : j = i
  · rw [e, pk_us, hv]
  · rw [pk_un e]
    exact h j (by omega)
theorem yy_h2 {post : SY → Prop} (hcN : cN ≤ 8) (hT : bm_IT ar tc t0 t1 hX H cN tN) (h : ∀ hg', (∀ i, i < tN → hg' i = hX i) → post (fT, fP, fR, fC, nI tN, fQ, fW, cm, sr, fG, ar, tc, t0, t1, hg', kd, pA, pB, pC, us, rp, rg, r1, r2, sb, gl, pa, ok, rY, st)) : ∀ (d i n : Nat) (hg : Nat → Int32), i + d = tN → d < n → (∀ j, j < i → hg j = hX j) → wY_computeHeights_2 post fT fP fR fC (nI tN) fQ fW cm sr fG n (nI i) ar tc t0 t1 hg kd pA pB pC us rp rg r1 r2 sb gl pa ok rY st := by
  obtain ⟨ht6, hTm⟩ := hT
  intro d
  induction d with
  | zero =>
    intro i n hg hi hn hh
    obtain ⟨m, rfl⟩ : ∃ m, n = m + 1 := ⟨n - 1, by omega⟩
    exact br_t (nI_le (by omega) (by omega)) (h hg (fun j hj => hh j (by omega)))
  | succ d ih =>
    intro i n hg hi hn hh
    obtain ⟨m, rfl⟩ : ∃ m, n = m + 1 := ⟨n - 1, by omega⟩
    obtain ⟨c, hc, ec, eh, hh1, hh2, hk⟩ := hTm i (by omega)
    have vi : vp_in (nI i) 64 := vp_in_nI (by omega) (by decide)
    have ci : (nI i).toNatClampNeg = i := nI_clamp (by omega)
    have cc : (nI c).toNatClampNeg = c := nI_clamp (by omega)
    have e1 : tc (nI i).toNatClampNeg = nI c := by rw [ci, ec]
    have vc : vp_in (tc (nI i).toNatClampNeg) 8 := by
      rw [e1]
      exact vp_in_nI (by omega) (by decide)
    have ea : ∀ A, ar c = A → ar (tc (nI i).toNatClampNeg).toNatClampNeg = A := by
      intro A e
      rw [e1, cc, e]
    rcases hk with ⟨b1, b2, b3, b4⟩ | ⟨j, b1, b2, b3, b4, b5⟩ | ⟨j, k, b1, b2, b3, b4, b5, b6⟩
    · refine br_f (nI_ge (by omega) (by omega)) ⟨vi, vc, nm_r (ea 0 b1) (br_t (by decide) (yy_60n (by omega) (by decide) (ih (i + 1) m _ (by omega) (by omega) (bm_hs hh ?_))))⟩
      rw [eh, b4]
      rfl
    · have cj : (nI j).toNatClampNeg = j := nI_clamp (by omega)
      have f1 : t0 (nI i).toNatClampNeg = nI j := by rw [ci, b4]
      have vj : vp_in (t0 (nI i).toNatClampNeg) 64 := by
        rw [f1]
        exact vp_in_nI (by omega) (by decide)
      obtain ⟨_, _, _, ej, hj1, hj2, _⟩ := hTm j (by omega)
      have f2 : hg (t0 (nI i).toNatClampNeg).toNatClampNeg + 1 = nI (H j + 1) := by rw [f1, cj, hh j b3, ej, nI_1]
      refine br_f (nI_ge (by omega) (by omega)) ⟨vi, vc, nm_r (ea 1 b1) (br_f (by decide) ⟨vi, vj, br_f ?_ ⟨vi, vj, nm_r f2 (yy_60n (by omega) (by decide) (ih (i + 1) m _ (by omega) (by omega) (bm_hs hh ?_)))⟩⟩)⟩
      · rw [f2]
        exact nI_ge (a := 1) (by omega) (by omega)
      · rw [eh, b5]
    · have cj : (nI j).toNatClampNeg = j := nI_clamp (by omega)
      have f1 : t0 (nI i).toNatClampNeg = nI j := by rw [ci, b4]
      have vj : vp_in (t0 (nI i).toNatClampNeg) 64 := by
        rw [f1]
        exact vp_in_nI (by omega) (by decide)
      obtain ⟨_, _, _, ej, hj1, hj2, _⟩ := hTm j (by omega)
      obtain ⟨_, _, _, ek, hk1, hk2, _⟩ := hTm k (by omega)
      have f2 : hg (t0 (nI i).toNatClampNeg).toNatClampNeg + 1 = nI (H j + 1) := by rw [f1, cj, hh j b2, ej, nI_1]
      refine br_f (nI_ge (by omega) (by omega)) ⟨vi, vc, nm_r (ea 2 b1) (br_f (by decide) ⟨vi, vj, br_f ?_ ⟨vi, vj, nm_r f2 (yy_60s (k := k) (a := H j) (b := H k) (by omega) (by omega) b5 ((hh k b3).trans ek) (by omega) (by omega) (ih (i + 1) m _ (by omega) (by omega) (bm_hs hh ?_)))⟩⟩)⟩
      · rw [f2]
        exact nI_ge (a := 1) (by omega) (by omega)
      · rw [eh, b6]
        split <;> rfl
theorem yy_heights {post : SY → Prop} (hcN : cN ≤ 8) (hT : bm_IT ar tc t0 t1 hX H cN tN) (h : ∀ hg', (∀ i, i < tN → hg' i = hX i) → post (fT, fP, fR, fC, nI tN, fQ, fW, cm, sr, fG, ar, tc, t0, t1, hg', kd, pA, pB, pC, us, rp, rg, r1, r2, sb, gl, pa, ok, rY, st)) : wpY_computeHeights post (fT, fP, fR, fC, nI tN, fQ, fW, cm, sr, fG, ar, tc, t0, t1, hg, kd, pA, pB, pC, us, rp, rg, r1, r2, sb, gl, pa, ok, rY, st) :=
  ⟨tN + 1, yy_h2 hcN hT h tN 0 (tN + 1) hg (by omega) (by omega) (fun _ hj => absurd hj (Nat.not_lt_zero _))⟩
end
theorem bm_clamp (k : Int32) (lo hi : Nat) (h : lo ≤ hi) (hh : hi < 2 ^ 31) : ∃ T : Nat, lo ≤ T ∧ T ≤ hi ∧ ∀ A : Int32 → Prop, A (nI T) → ((nI lo ≤ k → ((k ≤ nI hi → A k) ∧ (¬ k ≤ nI hi → A (nI hi)))) ∧ (¬ nI lo ≤ k → A (nI lo))) := by
  by_cases z : nI lo ≤ k
  · obtain ⟨j, hj, rfl⟩ := nI_of (bm_nlt0 (by omega) z)
    have z' := (nI_leI (by omega) hj).mp z
    by_cases y : j ≤ hi
    · exact ⟨j, z', y, fun A hA => br_t z (br_t (nI_le y hh) hA)⟩
    · exact ⟨hi, h, Nat.le_refl _, fun A hA => br_t z (br_f (nI_ge (by omega) hj) hA)⟩
  · exact ⟨lo, Nat.le_refl _, h, fun A hA => br_f z hA⟩
theorem i_vc0 (k0 : Int32) (k1 : Int32) (k2 : Int32) : wpX_init (fun u => wpY_init (fun v => i_Rel 3 u v) k0 k1 k2) k0 k1 k2 := by
  obtain ⟨T, hT1, hT2, cT⟩ := bm_clamp k0 8 64 (by decide) (by decide)
  obtain ⟨P, hP1, hP2, cP⟩ := bm_clamp k1 8 64 (by decide) (by decide)
  obtain ⟨R, hR1, hR2, cR⟩ := bm_clamp k2 1 8 (by decide) (by decide)
  have xT : ∀ A : Int32 → Prop, A (nI T) → wpX_clamp A k0 8 64 := cT
  have xP : ∀ A : Int32 → Prop, A (nI P) → wpX_clamp A k1 8 64 := cP
  have xR : ∀ A : Int32 → Prop, A (nI R) → wpX_clamp A k2 1 8 := cR
  unfold wpX_init
  refine xT _ ?_
  refine xP _ ?_
  refine xR _ ?_
  refine xx_clear ?_
  dsimp only
  refine cT (fun z => wY_init_189 _ k1 k2 z 0 0 0 0 0 0 0 0 0 0 (fun _ => 0) (fun _ => 0) (fun _ => 0) (fun _ => 0) (fun _ => 0) (fun _ => 0) (fun _ => 0) (fun _ => 0) (fun _ => 0) (fun _ => 0) (fun _ => 0) (fun _ => 0) (fun _ => 0) (fun _ => 0) (fun _ => 0) (fun _ => 0) (fun _ => 0) (fun _ => 0) (fun _ => 0) (fun _ => 0)) ?_
  refine cP (fun z => wY_init_216 _ k2 z (nI T) 0 0 0 0 0 0 0 0 0 (fun _ => 0) (fun _ => 0) (fun _ => 0) (fun _ => 0) (fun _ => 0) (fun _ => 0) (fun _ => 0) (fun _ => 0) (fun _ => 0) (fun _ => 0) (fun _ => 0) (fun _ => 0) (fun _ => 0) (fun _ => 0) (fun _ => 0) (fun _ => 0) (fun _ => 0) (fun _ => 0) (fun _ => 0) (fun _ => 0)) ?_
  refine cR (fun z => wY_init_241 _ z (nI T) (nI P) 0 0 0 0 0 0 0 0 (fun _ => 0) (fun _ => 0) (fun _ => 0) (fun _ => 0) (fun _ => 0) (fun _ => 0) (fun _ => 0) (fun _ => 0) (fun _ => 0) (fun _ => 0) (fun _ => 0) (fun _ => 0) (fun _ => 0) (fun _ => 0) (fun _ => 0) (fun _ => 0) (fun _ => 0) (fun _ => 0) (fun _ => 0) (fun _ => 0)) ?_
  unfold wY_init_241
  refine yy_clear ?_
  refine bm_mk (T := T) (P := P) (R := R) (cN := 0) (tN := 0) (pN := 0) (rN := 0) (gN := 0) (H := fun _ => 0) (sz := fun _ => 0) ⟨⟨by omega, hT2, by omega, hP2, by omega, hR2, by omega, by omega⟩, fun _ h => absurd h (Nat.not_lt_zero _), bm_IP_0 (fun _ => Or.inl rfl), bm_IT_0, bm_IF_0 (fun _ => Or.inl rfl), bm_IR_0⟩
theorem i_vc_reset {k : Nat} {u : SX} {v : SY} (I : i_Rel k u v) (hk : k + 5 ≤ 2563) : wpX_reset (fun u' => wpY_reset (fun v' => i_Rel (k + 5) u' v') v) u := by
  obtain ⟨T, P, R, cN, tN, pN, rN, gN, cm, sr, pk, ar, tc, t0, t1, hX, kd, pl, pf, ps, us, fi, rp, rg, r1, r2, sb, gl, rb, pp, pt, hg, pA, pB, pC, pa, ok, rY, st, H, sz, rfl, rfl, J⟩ := I
  have hJ := J.1
  unfold wpX_reset wpY_reset
  dsimp only
  refine xx_clear ?_
  refine yy_clear ?_
  exact bm_mk (T := T) (P := P) (R := R) (cN := cN) (tN := tN) (pN := 0) (rN := 0) (gN := 0) (H := H) (sz := sz) ⟨⟨hJ.1, hJ.2.1, by omega, hJ.2.2.2.1, by omega, hJ.2.2.2.2.2.1, by omega, hJ.2.2.2.2.2.2.2⟩, J.2.1, bm_IP_0 J.2.2.1.2.2.2.2.2.1, J.2.2.2.1, bm_IF_0 J.2.2.2.2.1.1, bm_IR_0⟩
theorem i_vc_termHeight {k : Nat} {u : SX} {v : SY} (I : i_Rel k u v) (hk : k + 5 ≤ 2563) (v1 : Int32) : wpX_termHeight (fun r => wpY_termHeight (fun r' v' => r' = r ∧ i_Rel (k + 5) u v') v v1) u v1 := by
  obtain ⟨T, P, R, cN, tN, pN, rN, gN, cm, sr, pk, ar, tc, t0, t1, hX, kd, pl, pf, ps, us, fi, rp, rg, r1, r2, sb, gl, rb, pp, pt, hg, pA, pB, pC, pa, ok, rY, st, H, sz, rfl, rfl, J⟩ := I
  have hJ := J.1
  have hT := J.2.2.2.1
  have h6 := hT.1
  unfold wpX_termHeight
  dsimp only
  rcases pk_ix v1 (n := tN) (by omega) with z | z | ⟨j, hj, rfl⟩
  · exact xx_term_f (Or.inl z) (br_t rfl (br_t z ⟨rfl, bm_mk J⟩))
  · exact xx_term_f (Or.inr z) (br_t rfl (br_f (bm_nlt0 (by omega) z) (br_f (Int32.not_lt.mpr z) ⟨rfl, bm_mk J⟩)))
  · refine xx_term_t hj h6 (br_f bm_n10 ⟨vp_in_nI (by omega) (by decide), br_f (bm_nge (by omega)) (br_t (nI_lt hj (by omega)) (yy_heights hJ.2.2.2.2.2.2.2 hT (fun hg' hh => ⟨vp_in_nI (by omega) (by decide), ?_, bm_mk J⟩)))⟩)
    rw [nI_clamp (by omega)]
    exact hh j hj
