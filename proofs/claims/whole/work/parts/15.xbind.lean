/-! bindRow of the component -/
section
variable {fT fP fR fC fN fQ fW cm sr fG pk : Int32} {ar tc t0 t1 hX kd pl pf ps us fi rp rg r1 r2 sb gl rb pp pt hg pA pB pC pa ok rY st : Nat → Int32} {H sz : Nat → Nat} {cN pN tN rN root t k q a b j i : Nat}
theorem xx_add_n {post : SX → Prop} {p1 : Int32} (h : post (fT, fP, fR, fC, fN, fQ, fW, cm, sr, fG, pk, ar, tc, t0, t1, hX, kd, pl, pf, ps, us, fi, rp, rg, r1, r2, sb, gl, rb, pp, pt)) : wpX_addPending post (fT, fP, fR, fC, fN, fQ, fW, cm, sr, fG, pk, ar, tc, t0, t1, hX, kd, pl, pf, ps, us, fi, rp, rg, r1, r2, sb, gl, rb, pp, pt) (-1) p1 := br_t rfl h
theorem xx_add {post : SX → Prop} {p1 : Int32} (ha : a < 64) (hk : k < 64) (e : p1 = nI b) (h : post (fT, fP, fR, fC, fN, fQ, fW, cm, sr, fG, nI (k + 1), ar, tc, t0, t1, hX, kd, pl, pf, ps, us, fi, rp, rg, r1, r2, sb, gl, rb, upd pp k (nI a), upd pt k (nI b))) : wpX_addPending post (fT, fP, fR, fC, fN, fQ, fW, cm, sr, fG, nI k, ar, tc, t0, t1, hX, kd, pl, pf, ps, us, fi, rp, rg, r1, r2, sb, gl, rb, pp, pt) (nI a) p1 := by
  subst e
  have vk : vp_in (nI k) 64 := vp_in_nI hk (by decide)
  exact br_f (bm_ne1 (by omega)) (br_f (nI_ge (b := 64) hk (by decide)) ⟨vk, nm_r (bm_uq (by omega)) ⟨vk, nm_r (bm_uq (by omega)) (nm_r (nI_1 k) h)⟩⟩)
theorem xx_bind_t {post : SX → Prop} {p1 : Int32} {y : Nat} (hy : y < 8) (h0 : rb y = -1) (h : post (fT, fP, fR, fC, fN, fQ, fW, cm, sr, fG, pk, ar, tc, t0, t1, hX, kd, pl, pf, ps, us, fi, rp, rg, r1, r2, sb, gl, upd rb y p1, pp, pt)) : wpX_bindIfUnbound post (fT, fP, fR, fC, fN, fQ, fW, cm, sr, fG, pk, ar, tc, t0, t1, hX, kd, pl, pf, ps, us, fi, rp, rg, r1, r2, sb, gl, rb, pp, pt) (nI y) p1 := by
  have vy : vp_in (nI y) 8 := vp_in_nI hy (by decide)
  exact ⟨vy, br_t (by rw [nI_clamp (by omega)]; exact h0) ⟨vy, nm_r (bm_uq (by omega)) h⟩⟩
theorem xx_bind_f {post : SX → Prop} {p1 : Int32} {y : Nat} (hy : y < 8) (h0 : ¬ rb y = -1) (h : post (fT, fP, fR, fC, fN, fQ, fW, cm, sr, fG, pk, ar, tc, t0, t1, hX, kd, pl, pf, ps, us, fi, rp, rg, r1, r2, sb, gl, rb, pp, pt)) : wpX_bindIfUnbound post (fT, fP, fR, fC, fN, fQ, fW, cm, sr, fG, pk, ar, tc, t0, t1, hX, kd, pl, pf, ps, us, fi, rp, rg, r1, r2, sb, gl, rb, pp, pt) (nI y) p1 := by
  have vy : vp_in (nI y) 8 := vp_in_nI hy (by decide)
  exact ⟨vy, br_f (by rw [nI_clamp (by omega)]; exact h0) h⟩
theorem xx_v0 {post : SX → Prop} (hq : q < 64) (ek : kd q = 0) (h : post (fT, fP, fR, fC, fN, fQ, fW, cm, sr, fG, pk, ar, tc, t0, t1, hX, kd, pl, pf, ps, us, fi, rp, rg, r1, r2, sb, gl, rb, pp, pt)) : wpX_visit post (fT, fP, fR, fC, fN, fQ, fW, cm, sr, fG, pk, ar, tc, t0, t1, hX, kd, pl, pf, ps, us, fi, rp, rg, r1, r2, sb, gl, rb, pp, pt) (nI q) (nI t) := by
  have vi : vp_in (nI q) 64 := vp_in_nI hq (by decide)
  have cq : (nI q).toNatClampNeg = q := nI_clamp (by omega)
  exact ⟨vi, nm_e ⟨vi, nm_e ⟨vi, nm_r ((congrArg kd cq).trans ek) (br_t (by decide) h)⟩⟩⟩
theorem xx_v1 {post : SX → Prop} {y : Nat} (hq : q < 64) (hk : k < 64) (hy : y < 8) (ha : a < 64) (ek : kd q = 1) (el : pl q = nI y) (e1 : pf q = nI a)
    (h0 : ¬ rb y = -1 → post (fT, fP, fR, fC, fN, fQ, fW, cm, sr, fG, nI (k + 1), ar, tc, t0, t1, hX, kd, pl, pf, ps, us, fi, rp, rg, r1, r2, sb, gl, rb, upd pp k (nI a), upd pt k (nI t))) (h1 : rb y = -1 → post (fT, fP, fR, fC, fN, fQ, fW, cm, sr, fG, nI (k + 1), ar, tc, t0, t1, hX, kd, pl, pf, ps, us, fi, rp, rg, r1, r2, sb, gl, upd rb y (nI t), upd pp k (nI a), upd pt k (nI t))) : wpX_visit post (fT, fP, fR, fC, fN, fQ, fW, cm, sr, fG, nI k, ar, tc, t0, t1, hX, kd, pl, pf, ps, us, fi, rp, rg, r1, r2, sb, gl, rb, pp, pt) (nI q) (nI t) := by
  have vi : vp_in (nI q) 64 := vp_in_nI hq (by decide)
  have cq : (nI q).toNatClampNeg = q := nI_clamp (by omega)
  refine ⟨vi, nm_r ((congrArg pf cq).trans e1) ⟨vi, nm_e ⟨vi, nm_r ((congrArg kd cq).trans ek) (br_f (by decide) (br_f (by decide) (br_t rfl ⟨vi, ?_⟩)))⟩⟩⟩
  rw [cq, el]
  by_cases z : rb y = -1
  · exact xx_bind_t hy z (xx_add ha hk rfl (h1 z))
  · exact xx_bind_f hy z (xx_add ha hk rfl (h0 z))
theorem xx_v20 {post : SX → Prop} (hq : q < 64) (ht : t < 64) (ek : kd q = 2) (e1 : pf q = -1) (e2 : ps q = -1) (h : post (fT, fP, fR, fC, fN, fQ, fW, cm, sr, fG, pk, ar, tc, t0, t1, hX, kd, pl, pf, ps, us, fi, rp, rg, r1, r2, sb, gl, rb, pp, pt)) : wpX_visit post (fT, fP, fR, fC, fN, fQ, fW, cm, sr, fG, pk, ar, tc, t0, t1, hX, kd, pl, pf, ps, us, fi, rp, rg, r1, r2, sb, gl, rb, pp, pt) (nI q) (nI t) := by
  have vi : vp_in (nI q) 64 := vp_in_nI hq (by decide)
  have vt : vp_in (nI t) 64 := vp_in_nI ht (by decide)
  have cq : (nI q).toNatClampNeg = q := nI_clamp (by omega)
  exact ⟨vi, nm_r ((congrArg pf cq).trans e1) ⟨vi, nm_r ((congrArg ps cq).trans e2) ⟨vi, nm_r ((congrArg kd cq).trans ek) (br_f (by decide) (br_f (by decide) (br_f (by decide) (br_t rfl ⟨vt, xx_add_n ⟨vt, xx_add_n h⟩⟩))))⟩⟩⟩
theorem xx_v21 {post : SX → Prop} (hq : q < 64) (ht : t < 64) (hk : k < 64) (ha : a < 64) (ek : kd q = 2) (e1 : pf q = nI a) (e2 : ps q = -1) (et : t0 t = nI j) (h : post (fT, fP, fR, fC, fN, fQ, fW, cm, sr, fG, nI (k + 1), ar, tc, t0, t1, hX, kd, pl, pf, ps, us, fi, rp, rg, r1, r2, sb, gl, rb, upd pp k (nI a), upd pt k (nI j))) : wpX_visit post (fT, fP, fR, fC, fN, fQ, fW, cm, sr, fG, nI k, ar, tc, t0, t1, hX, kd, pl, pf, ps, us, fi, rp, rg, r1, r2, sb, gl, rb, pp, pt) (nI q) (nI t) := by
  have vi : vp_in (nI q) 64 := vp_in_nI hq (by decide)
  have vt : vp_in (nI t) 64 := vp_in_nI ht (by decide)
  have cq : (nI q).toNatClampNeg = q := nI_clamp (by omega)
  have ct : (nI t).toNatClampNeg = t := nI_clamp (by omega)
  exact ⟨vi, nm_r ((congrArg pf cq).trans e1) ⟨vi, nm_r ((congrArg ps cq).trans e2) ⟨vi, nm_r ((congrArg kd cq).trans ek) (br_f (by decide) (br_f (by decide) (br_f (by decide) (br_t rfl ⟨vt, xx_add ha hk ((congrArg t0 ct).trans et) ⟨vt, xx_add_n h⟩⟩))))⟩⟩⟩
theorem xx_v22 {post : SX → Prop} (hq : q < 64) (ht : t < 64) (hk : k + 1 < 64) (ha : a < 64) (hb : b < 64) (ek : kd q = 2) (e1 : pf q = nI a) (e2 : ps q = nI b) (et : t0 t = nI j) (eu : t1 t = nI i) (h : post (fT, fP, fR, fC, fN, fQ, fW, cm, sr, fG, nI (k + 1 + 1), ar, tc, t0, t1, hX, kd, pl, pf, ps, us, fi, rp, rg, r1, r2, sb, gl, rb, upd (upd pp k (nI a)) (k + 1) (nI b), upd (upd pt k (nI j)) (k + 1) (nI i))) : wpX_visit post (fT, fP, fR, fC, fN, fQ, fW, cm, sr, fG, nI k, ar, tc, t0, t1, hX, kd, pl, pf, ps, us, fi, rp, rg, r1, r2, sb, gl, rb, pp, pt) (nI q) (nI t) := by
  have vi : vp_in (nI q) 64 := vp_in_nI hq (by decide)
  have vt : vp_in (nI t) 64 := vp_in_nI ht (by decide)
  have cq : (nI q).toNatClampNeg = q := nI_clamp (by omega)
  have ct : (nI t).toNatClampNeg = t := nI_clamp (by omega)
  exact ⟨vi, nm_r ((congrArg pf cq).trans e1) ⟨vi, nm_r ((congrArg ps cq).trans e2) ⟨vi, nm_r ((congrArg kd cq).trans ek) (br_f (by decide) (br_f (by decide) (br_f (by decide) (br_t rfl ⟨vt, xx_add ha (by omega) ((congrArg t0 ct).trans et) ⟨vt, xx_add hb hk ((congrArg t1 ct).trans eu) h⟩⟩))))⟩⟩⟩
theorem xx_v3 {post : SX → Prop} (hq : q < 64) (ht : t < 64) (hk : k < 64) (ha : a < 64) (hb : b < 64) (h01 : ∀ i, fi i = 0 ∨ fi i = 1) (ek : kd q = 3) (e1 : pf q = nI a) (e2 : ps q = nI b)
    (h1 : fi (a * 64 + t) = 1 → post (fT, fP, fR, fC, fN, fQ, fW, cm, sr, fG, nI (k + 1), ar, tc, t0, t1, hX, kd, pl, pf, ps, us, fi, rp, rg, r1, r2, sb, gl, rb, upd pp k (nI a), upd pt k (nI t))) (h0 : fi (a * 64 + t) = 0 → post (fT, fP, fR, fC, fN, fQ, fW, cm, sr, fG, nI (k + 1), ar, tc, t0, t1, hX, kd, pl, pf, ps, us, fi, rp, rg, r1, r2, sb, gl, rb, upd pp k (nI b), upd pt k (nI t))) : wpX_visit post (fT, fP, fR, fC, fN, fQ, fW, cm, sr, fG, nI k, ar, tc, t0, t1, hX, kd, pl, pf, ps, us, fi, rp, rg, r1, r2, sb, gl, rb, pp, pt) (nI q) (nI t) := by
  have vi : vp_in (nI q) 64 := vp_in_nI hq (by decide)
  have cq : (nI q).toNatClampNeg = q := nI_clamp (by omega)
  refine ⟨vi, nm_r ((congrArg pf cq).trans e1) ⟨vi, nm_r ((congrArg ps cq).trans e2) ⟨vi, nm_r ((congrArg kd cq).trans ek) (br_f (by decide) (br_f (by decide) (br_f (by decide) (br_f (by decide) (br_t rfl (xx_fits ha ht h01 (br_c (fun z => ?_) (fun z => ?_))))))))⟩⟩⟩
  · unfold wX_visit_114
    exact xx_add hb hk rfl (h0 z)
  · unfold wX_visit_114
    exact xx_add ha hk rfl (h1 (bm_01t (h01 _) z))
theorem xx_39 {post : SX → Prop} {B : Nat → Int32} (hcN : cN ≤ 8) (hP : bm_IP ar kd pl pf ps pA pB pC us sz cN pN) (hT : bm_IT ar tc t0 t1 hX H cN tN) (hF : bm_IF kd pl pf ps tc t0 t1 fi pN tN)
    (hpost : ∀ pk' rb' pp' pt', (∀ x, x < 8 → rb' x = B x) → post (fT, fP, fR, fC, fN, fQ, fW, cm, sr, fG, pk', ar, tc, t0, t1, hX, kd, pl, pf, ps, us, fi, rp, rg, r1, r2, sb, gl, rb', pp', pt')) :
    ∀ (n i k : Nat) (l : List (Nat × Nat)) (rb pp pt : Nat → Int32), 64 - i < n → bm_wX sz l + i ≤ 64 → bm_SX pp pt l k → bm_OX fi pN tN l →
      (∀ x, x < 8 → bm_mg (rb x) (bm_RX (fun x p t => bm_D kd pl pf ps t0 t1 fi x 64 p t) x l) = B x) → wX_bindRow_39 post n (nI i) fT fP fR fC fN fQ fW cm sr fG (nI k) ar tc t0 t1 hX kd pl pf ps us fi rp rg r1 r2 sb gl rb pp pt := by
  have h6 := hP.1
  have t6 := hT.1
  have s1 : ∀ p, p < pN → 1 ≤ sz p := fun p hp => by
    have := hP.2.2.1 p hp
    unfold bm_Sz at this
    omega
  intro n
  induction n with
  | zero => intro i k l rb pp pt h; omega
  | succ n ih =>
    intro i k l rb pp pt hn hw hS hO hB
    have kw := bm_kX s1 l k hS hO
    cases l with
    | nil =>
      have hk : k = 0 := hS
      subst hk
      have fin : post (fT, fP, fR, fC, fN, fQ, fW, cm, sr, fG, nI 0, ar, tc, t0, t1, hX, kd, pl, pf, ps, us, fi, rp, rg, r1, r2, sb, gl, rb, pp, pt) := hpost _ _ _ _ (fun x hx => by
        have := hB x hx
        unfold bm_RX at this
        rw [bm_mg_r] at this
        exact this)
      exact br_c (fun _ => fin) (fun _ => br_t (by decide) fin)
    | cons e l =>
      obtain ⟨q, t⟩ := e
      obtain ⟨j, hj, ep, et, hS'⟩ := hS
      obtain ⟨⟨hq, ht, hf⟩, hO'⟩ := hO
      subst hj
      have hw' : sz q + bm_wX sz l + i ≤ 64 := hw
      have sq := s1 q hq
      have kw' := bm_kX s1 l j hS' hO'
      have vj : vp_in (nI j) 64 := vp_in_nI (by omega) (by decide)
      have cj : (nI j).toNatClampNeg = j := nI_clamp (by omega)
      have ep' : pp (nI j).toNatClampNeg = nI q := by rw [cj]; exact ep
      have et' : pt (nI j).toNatClampNeg = nI t := by rw [cj]; exact et
      have hB' : ∀ x, x < 8 → bm_mg (rb x) (bm_mg (bm_D kd pl pf ps t0 t1 fi x 64 q t) (bm_RX (fun x p t => bm_D kd pl pf ps t0 t1 fi x 64 p t) x l)) = B x := hB
      refine br_f (nI_ge (b := 64) (by omega) (by decide)) (br_f (nI_nle (by omega) (by omega)) (nm_r (nI_pred j) ⟨vj, vj, ?_⟩))
      rw [ep', et']
      have hq' : q < pN := hq
      have ht' : t < tN := ht
      rcases bm_step hcN hP hT hF hq' ht' hf with ⟨ek, es, hD⟩ | ⟨y, a, ek, hy, ha, el, e1, e2, _, _, es, hf', hD⟩ | ⟨c, ek, _, _, e1, e2, _, es, hD⟩ | ⟨c, a, u, ek, _, _, ha, hu, _, _, e1, e2, _, _, eu, es, hf', hD⟩ | ⟨c, a, b, u, w, ek, _, _, ha, hb, hu, hw2, _, _, e1, e2, _, _, _, eu, ew, es, hf', hg', hD⟩ | ⟨a, b, ek, ha, hb, e1, e2, _, _, es, hor⟩
      · refine xx_v0 (by omega) ek (nm_r (nI_1 i) (ih (i + 1) j l rb pp pt (by omega) (by omega) hS' hO' (fun x hx => ?_)))
        have := hB' x hx
        rw [hD x, bm_mg_l] at this
        exact this
      · refine xx_v1 (by omega) (by omega) hy (by omega) ek el e1 (fun z => nm_r (nI_1 i) (ih (i + 1) (j + 1) ((a, t) :: l) _ _ _ (by omega) ?_ (bm_SX_push hS') ⟨⟨by omega, ht', hf'⟩, hO'⟩ (fun x hx => ?_))) (fun z => nm_r (nI_1 i) (ih (i + 1) (j + 1) ((a, t) :: l) _ _ _ (by omega) ?_ (bm_SX_push hS') ⟨⟨by omega, ht', hf'⟩, hO'⟩ (fun x hx => ?_)))
        · show sz a + bm_wX sz l + (i + 1) ≤ 64
          omega
        · have := hB' x hx
          rw [hD x, bm_mg_as, el] at this
          exact bm_bind hy hx (by omega) z this
        · show sz a + bm_wX sz l + (i + 1) ≤ 64
          omega
        · have := hB' x hx
          rw [hD x, bm_mg_as, el] at this
          exact bm_bind' hy hx (by omega) z this
      · refine xx_v20 (by omega) (by omega) ek e1 e2 (nm_r (nI_1 i) (ih (i + 1) j l rb pp pt (by omega) (by omega) hS' hO' (fun x hx => ?_)))
        have := hB' x hx
        rw [hD x, bm_mg_l] at this
        exact this
      · refine xx_v21 (by omega) (by omega) (by omega) (by omega) ek e1 e2 eu (nm_r (nI_1 i) (ih (i + 1) (j + 1) ((a, u) :: l) _ _ _ (by omega) ?_ (bm_SX_push hS') ⟨⟨by omega, by omega, hf'⟩, hO'⟩ (fun x hx => ?_)))
        · show sz a + bm_wX sz l + (i + 1) ≤ 64
          omega
        · have := hB' x hx
          rw [hD x] at this
          exact this
      · have sa := s1 a (by omega)
        have sb2 := s1 b (by omega)
        refine xx_v22 (by omega) (by omega) (by omega) (by omega) (by omega) ek e1 e2 eu ew (nm_r (nI_1 i) (ih (i + 1) (j + 1 + 1) ((b, w) :: (a, u) :: l) _ _ _ (by omega) ?_ (bm_SX_push (bm_SX_push hS')) ⟨⟨by omega, by omega, hg'⟩, ⟨by omega, by omega, hf'⟩, hO'⟩ (fun x hx => ?_)))
        · show sz b + (sz a + bm_wX sz l) + (i + 1) ≤ 64
          omega
        · have := hB' x hx
          rw [hD x, bm_mg_as] at this
          exact this
      · refine xx_v3 (by omega) (by omega) (by omega) (by omega) (by omega) hF.1 ek e1 e2 (fun z => nm_r (nI_1 i) (ih (i + 1) (j + 1) ((a, t) :: l) _ _ _ (by omega) ?_ (bm_SX_push hS') ⟨⟨by omega, ht', z⟩, hO'⟩ (fun x hx => ?_))) (fun z => nm_r (nI_1 i) (ih (i + 1) (j + 1) ((b, t) :: l) _ _ _ (by omega) ?_ (bm_SX_push hS') ⟨⟨by omega, ht', ?_⟩, hO'⟩ (fun x hx => ?_)))
        · show sz a + bm_wX sz l + (i + 1) ≤ 64
          omega
        · have := hB' x hx
          rcases hor with ⟨_, hD⟩ | ⟨z', _, hD⟩
          · rw [hD x] at this
            exact this
          · rw [z] at z'
            exact absurd z' bm_n10
        · show sz b + bm_wX sz l + (i + 1) ≤ 64
          omega
        · rcases hor with ⟨z', hD⟩ | ⟨_, hr, hD⟩
          · rw [z] at z'
            exact absurd z' bm_n01
          · exact hr
        · have := hB' x hx
          rcases hor with ⟨z', hD⟩ | ⟨_, hr, hD⟩
          · rw [z] at z'
            exact absurd z' bm_n01
          · rw [hD x] at this
            exact this
theorem xx_b2 {post : SX → Prop} {r p1 : Int32} (h : vp_in r 8 ∧ wpX_addPending (fun u => match u with | (a1, a2, a3, a4, a5, a6, a7, a8, a9, a10, a11, a12, a13, a14, a15, a16, a17, a18, a19, a20, a21, a22, a23, a24, a25, a26, a27, a28, a29, a30, a31) => ∃ n39 : Nat, wX_bindRow_39 post n39 0 a1 a2 a3 a4 a5 a6 a7 a8 a9 a10 a11 a12 a13 a14 a15 a16 a17 a18 a19 a20 a21 a22 a23 a24 a25 a26 a27 a28 a29 a30 a31) (fT, fP, fR, fC, fN, fQ, fW, cm, sr, fG, 0, ar, tc, t0, t1, hX, kd, pl, pf, ps, us, fi, rp, rg, r1, r2, sb, gl, bm_clr (-1) 8 rb, pp, pt) (rp r.toNatClampNeg) p1) :
    ∀ (d i n : Nat), i + d = 8 → d < n → wX_bindRow_2 post r p1 fT fP fR fC fN fQ fW cm sr fG pk n (nI i) ar tc t0 t1 hX kd pl pf ps us fi rp rg r1 r2 sb gl (bm_clr (-1) i rb) pp pt := by
  intro d
  induction d with
  | zero =>
    intro i n hi hn
    obtain ⟨m, rfl⟩ : ∃ m, n = m + 1 := ⟨n - 1, by omega⟩
    have e : i = 8 := by omega
    subst e
    exact br_t (nI_le (a := 8) (Nat.le_refl _) (by decide)) h
  | succ d ih =>
    intro i n hi hn
    obtain ⟨m, rfl⟩ : ∃ m, n = m + 1 := ⟨n - 1, by omega⟩
    exact br_f (nI_ge (b := 8) (by omega) (by decide)) ⟨vp_in_nI (by omega) (by decide), nm_r ((bm_uq (by omega)).trans bm_clr_s) (nm_r (nI_1 i) (ih (i + 1) m (by omega) (by omega)))⟩
theorem xx_bindRow {post : SX → Prop} {r : Nat} (hcN : cN ≤ 8) (hP : bm_IP ar kd pl pf ps pA pB pC us sz cN pN) (hT : bm_IT ar tc t0 t1 hX H cN tN) (hF : bm_IF kd pl pf ps tc t0 t1 fi pN tN) (hr : r < 8) (er : rp r = nI root) (hq : root < pN) (hs : sz root ≤ 64) (ht : t < tN) (hf : fi (root * 64 + t) = 1)
    (hpost : ∀ pk' rb' pp' pt', (∀ x, x < 8 → rb' x = bm_D kd pl pf ps t0 t1 fi x 64 root t) → post (fT, fP, fR, fC, fN, fQ, fW, cm, sr, fG, pk', ar, tc, t0, t1, hX, kd, pl, pf, ps, us, fi, rp, rg, r1, r2, sb, gl, rb', pp', pt')) : wpX_bindRow post (fT, fP, fR, fC, fN, fQ, fW, cm, sr, fG, pk, ar, tc, t0, t1, hX, kd, pl, pf, ps, us, fi, rp, rg, r1, r2, sb, gl, rb, pp, pt) (nI r) (nI t) := by
  have h6 := hP.1
  have e : rp (nI r).toNatClampNeg = nI root := by rw [nI_clamp (by omega), er]
  suffices h : vp_in (nI r) 8 ∧ wpX_addPending (fun u => match u with | (a1, a2, a3, a4, a5, a6, a7, a8, a9, a10, a11, a12, a13, a14, a15, a16, a17, a18, a19, a20, a21, a22, a23, a24, a25, a26, a27, a28, a29, a30, a31) => ∃ n39 : Nat, wX_bindRow_39 post n39 0 a1 a2 a3 a4 a5 a6 a7 a8 a9 a10 a11 a12 a13 a14 a15 a16 a17 a18 a19 a20 a21 a22 a23 a24 a25 a26 a27 a28 a29 a30 a31) (fT, fP, fR, fC, fN, fQ, fW, cm, sr, fG, 0, ar, tc, t0, t1, hX, kd, pl, pf, ps, us, fi, rp, rg, r1, r2, sb, gl, bm_clr (-1) 8 rb, pp, pt) (rp (nI r).toNatClampNeg) (nI t) by
    have K := xx_b2 (pk := pk) h 8 0 9 rfl (by decide)
    rw [bm_clr0] at K
    exact ⟨9, K⟩
  refine ⟨vp_in_nI hr (by decide), ?_⟩
  rw [e]
  refine xx_add (k := 0) (by omega) (by decide) rfl ⟨65, ?_⟩
  refine xx_39 hcN hP hT hF hpost 65 0 1 [(root, t)] _ _ _ (by decide) ?_ (bm_SX_push (l := []) rfl) ⟨⟨hq, ht, hf⟩, trivial⟩ (fun x hx => ?_)
  · show sz root + 0 + 0 ≤ 64
    omega
  · rw [bm_clr_l hx, bm_mg_l]
    exact bm_mg_r _
end
