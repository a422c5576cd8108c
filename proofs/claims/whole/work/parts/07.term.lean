/-! term: the component's and the reference's walks -/
theorem bm_uq {f : Nat → Int32} {k : Nat} {v : Int32} (h : k < 2 ^ 31) : upd f (nI k).toNatClampNeg v = upd f k v := by rw [nI_clamp h]
section
variable {fT fP fR fC fN fQ fW cm sr fG pk : Int32} {ar tc t0 t1 hX kd pl pf ps us fi rp rg r1 r2 sb gl rb pp pt hg pA pB pC pa ok rY st : Nat → Int32} {H sz : Nat → Nat} {cN pN tN rN : Nat}
theorem xx_54 {post : Int32 → SX → Prop} (hcN : cN ≤ 8) (hp6 : pN ≤ 64) (ht6 : tN < 64) (hN : ∀ p, p < pN → bm_Nd ar kd pl pf ps pA pB pC cN p) (hT : ∀ t, t < tN + 1 → bm_Tm ar tc t0 t1 hX H cN t)
    (hpost : ∀ fi', bm_IF kd pl pf ps tc t0 t1 fi' pN (tN + 1) → post (nI tN) (fT, fP, fR, fC, fN, nI pN, fW, cm, sr, fG, pk, ar, tc, t0, t1, hX, kd, pl, pf, ps, us, fi', rp, rg, r1, r2, sb, gl, rb, pp, pt)) : ∀ (d i n : Nat) (fi : Nat → Int32), i + d = pN → d < n →
      bm_FG kd pl pf ps tc t0 t1 fi (fun p t => p < pN ∧ (t < tN ∨ (t = tN ∧ p < i))) → wX_storeTerm_54 post (nI tN) n (nI i) fT fP fR fC fN (nI pN) fW cm sr fG pk ar tc t0 t1 hX kd pl pf ps us fi rp rg r1 r2 sb gl rb pp pt := by
  intro d
  induction d with
  | zero =>
    intro i n fi hi hn hF
    obtain ⟨m, rfl⟩ : ∃ m, n = m + 1 := ⟨n - 1, by omega⟩
    exact br_t (nI_le (by omega) (by omega)) (hpost fi (bm_FG_te (bm_FG_m hF (fun p t z => by omega))))
  | succ d ih =>
    intro i n fi hi hn hF
    obtain ⟨m, rfl⟩ : ∃ m, n = m + 1 := ⟨n - 1, by omega⟩
    exact br_f (nI_ge (by omega) (by omega)) (xx_record hcN (by omega) (by omega) (hN i (by omega)) (hT tN (by omega)) hF.1 (fun v hv hn' => nm_r (nI_1 i) (ih (i + 1) m _ (by omega) (by omega) (bm_FG_ts hp6 ht6 hN hT (by omega) hF hn' hv))))
theorem xx_h0 {post : Int32 → Prop} (h : post (nI 1)) : wpX_heightAbove post (fT, fP, fR, fC, fN, fQ, fW, cm, sr, fG, pk, ar, tc, t0, t1, hX, kd, pl, pf, ps, us, fi, rp, rg, r1, r2, sb, gl, rb, pp, pt) (-1) (-1) := br_t rfl (br_t rfl h)
theorem xx_h1 {post : Int32 → Prop} {j a : Nat} (hj : j < 64) (e : hX j = nI a) (h : post (nI (a + 1))) : wpX_heightAbove post (fT, fP, fR, fC, fN, fQ, fW, cm, sr, fG, pk, ar, tc, t0, t1, hX, kd, pl, pf, ps, us, fi, rp, rg, r1, r2, sb, gl, rb, pp, pt) (nI j) (-1) := by
  refine br_f (bm_ne1 (by omega)) ⟨vp_in_nI hj (by omega), ?_⟩
  rw [nI_clamp (by omega), e]
  refine br_t rfl ?_
  rw [nI_1]
  exact h
theorem xx_h2 {post : Int32 → Prop} {j k a b : Nat} (hj : j < 64) (hk : k < 64) (e : hX j = nI a) (e' : hX k = nI b) (ha : a < 2 ^ 20) (hb : b < 2 ^ 20) (h : post (nI ((if a < b then b else a) + 1))) : wpX_heightAbove post (fT, fP, fR, fC, fN, fQ, fW, cm, sr, fG, pk, ar, tc, t0, t1, hX, kd, pl, pf, ps, us, fi, rp, rg, r1, r2, sb, gl, rb, pp, pt) (nI j) (nI k) := by
  refine br_f (bm_ne1 (by omega)) ⟨vp_in_nI hj (by omega), ?_⟩
  rw [nI_clamp (by omega), e]
  have ck : (nI k).toNatClampNeg = k := nI_clamp (by omega)
  refine br_f (bm_ne1 (by omega)) ⟨vp_in_nI hk (by omega), ?_⟩
  rw [ck, e']
  by_cases z : a < b
  · refine br_f (nI_ge z (by omega)) ⟨vp_in_nI hk (by omega), nm_r rfl ?_⟩
    rw [if_pos z] at h
    rw [nI_1]
    exact h
  · refine br_t (nI_le (by omega) (by omega)) ?_
    rw [if_neg z] at h
    rw [nI_1]
    exact h
theorem xx_storeTerm {post : Int32 → SX → Prop} {c f s : Int32} {g : Nat} (hcN : cN ≤ 8) (hp6 : pN ≤ 64) (ht6 : tN < 64) (hN : ∀ p, p < pN → bm_Nd ar kd pl pf ps pA pB pC cN p) (hT : bm_IT ar tc t0 t1 hX H cN tN) (hF : bm_IF kd pl pf ps tc t0 t1 fi pN tN)
    (hh : ∀ post' : Int32 → Prop, post' (nI g) → wpX_heightAbove post' (fT, fP, fR, fC, nI tN, nI pN, fW, cm, sr, fG, pk, ar, upd tc tN c, upd t0 tN f, upd t1 tN s, hX, kd, pl, pf, ps, us, fi, rp, rg, r1, r2, sb, gl, rb, pp, pt) f s)
    (hnew : bm_Tm ar (upd tc tN c) (upd t0 tN f) (upd t1 tN s) (upd hX tN (nI g)) (bm_un H tN g) cN tN)
    (hpost : ∀ fi', bm_IF kd pl pf ps (upd tc tN c) (upd t0 tN f) (upd t1 tN s) fi' pN (tN + 1) → post (nI tN) (fT, fP, fR, fC, nI (tN + 1), nI pN, fW, cm, sr, fG, pk, ar, upd tc tN c, upd t0 tN f, upd t1 tN s, upd hX tN (nI g), kd, pl, pf, ps, us, fi', rp, rg, r1, r2, sb, gl, rb, pp, pt)) :
    wpX_storeTerm post (fT, fP, fR, fC, nI tN, nI pN, fW, cm, sr, fG, pk, ar, tc, t0, t1, hX, kd, pl, pf, ps, us, fi, rp, rg, r1, r2, sb, gl, rb, pp, pt) c f s := by
  have vi : vp_in (nI tN) 64 := vp_in_nI ht6 (by omega)
  have hT' := bm_IT_new hT ht6 hnew
  refine ⟨vi, nm_r (bm_uq (by omega)) ⟨vi, nm_r (bm_uq (by omega)) ⟨vi, nm_r (bm_uq (by omega)) ?_⟩⟩⟩
  refine hh _ ⟨vi, nm_r (bm_uq (by omega)) (nm_r (nI_1 tN) ⟨pN + 1, ?_⟩)⟩
  exact xx_54 hcN hp6 ht6 hN hT'.2 hpost pN 0 (pN + 1) fi (by omega) (by omega) (bm_FG_t hF)
/-- the component finds, or not -/
theorem xx_find_f {post : Int32 → Prop} {c f s : Int32} (ht6 : tN ≤ 64) (hno : ∀ i, i < tN → ¬ (tc i = c ∧ t0 i = f ∧ t1 i = s)) (h : post (-1)) : ∀ (d i n : Nat), i + d = tN → d < n → wX_findTerm_3 post c f s fT fP fR fC (nI tN) fQ fW cm sr fG pk ar tc t0 t1 hX kd pl pf ps us fi rp rg r1 r2 sb gl rb pp pt n (nI i) := by
  intro d
  induction d with
  | zero =>
    intro i n hi hn
    obtain ⟨m, rfl⟩ : ∃ m, n = m + 1 := ⟨n - 1, by omega⟩
    exact br_t (nI_le (by omega) (by omega)) h
  | succ d ih =>
    intro i n hi hn
    obtain ⟨m, rfl⟩ : ∃ m, n = m + 1 := ⟨n - 1, by omega⟩
    have vi : vp_in (nI i) 64 := vp_in_nI (by omega) (by omega)
    have ci : (nI i).toNatClampNeg = i := nI_clamp (by omega)
    have nx := ih (i + 1) m (by omega) (by omega)
    refine br_f (nI_ge (by omega) (by omega)) ⟨vi, br_c (fun a => ⟨vi, br_c (fun b => ⟨vi, br_c (fun e => ?_) (fun _ => nm_r (nI_1 i) nx)⟩) (fun _ => nm_r (nI_1 i) nx)⟩) (fun _ => nm_r (nI_1 i) nx)⟩
    rw [ci] at a b e
    exact absurd ⟨a, b, e⟩ (hno i (by omega))
theorem xx_find_t {post : Int32 → Prop} {c f s : Int32} {j : Nat} (ht6 : tN ≤ 64) (hj : j < tN) (hno : ∀ i, i < j → ¬ (tc i = c ∧ t0 i = f ∧ t1 i = s)) (hy : tc j = c ∧ t0 j = f ∧ t1 j = s) (h : post (nI j)) : ∀ (d i n : Nat), i + d = j → d < n → wX_findTerm_3 post c f s fT fP fR fC (nI tN) fQ fW cm sr fG pk ar tc t0 t1 hX kd pl pf ps us fi rp rg r1 r2 sb gl rb pp pt n (nI i) := by
  intro d
  induction d with
  | zero =>
    intro i n hi hn
    obtain ⟨m, rfl⟩ : ∃ m, n = m + 1 := ⟨n - 1, by omega⟩
    have e : i = j := by omega
    subst e
    have vi : vp_in (nI i) 64 := vp_in_nI (by omega) (by omega)
    have ci : (nI i).toNatClampNeg = i := nI_clamp (by omega)
    exact br_f (nI_ge (by omega) (by omega)) ⟨vi, br_t (by rw [ci]; exact hy.1) ⟨vi, br_t (by rw [ci]; exact hy.2.1) ⟨vi, br_t (by rw [ci]; exact hy.2.2) h⟩⟩⟩
  | succ d ih =>
    intro i n hi hn
    obtain ⟨m, rfl⟩ : ∃ m, n = m + 1 := ⟨n - 1, by omega⟩
    have vi : vp_in (nI i) 64 := vp_in_nI (by omega) (by omega)
    have ci : (nI i).toNatClampNeg = i := nI_clamp (by omega)
    have nx := ih (i + 1) m (by omega) (by omega)
    refine br_f (nI_ge (by omega) (by omega)) ⟨vi, br_c (fun a => ⟨vi, br_c (fun b => ⟨vi, br_c (fun e => ?_) (fun _ => nm_r (nI_1 i) nx)⟩) (fun _ => nm_r (nI_1 i) nx)⟩) (fun _ => nm_r (nI_1 i) nx)⟩
    rw [ci] at a b e
    exact absurd ⟨a, b, e⟩ (hno i (by omega))
/-- the reference's test at node i -/
def bm_YF (tc t0 t1 : Nat → Int32) (c x2 x3 A : Int32) (i : Nat) : Prop := tc i = c ∧ (A < 1 ∨ t0 i = x2) ∧ (A < 2 ∨ t1 i = x3)
theorem yy_hit {post : Int32 → SY → Prop} {c x2 x3 A : Int32} {i n : Nat} (ht6 : tN ≤ 64) (hi : i < tN) (hy : bm_YF tc t0 t1 c x2 x3 A i) (h : post (nI i) (fT, fP, fR, fC, nI tN, fQ, fW, cm, sr, fG, ar, tc, t0, t1, hg, kd, pA, pB, pC, us, rp, rg, r1, r2, sb, gl, pa, ok, rY, st)) : wY_term_65 post c x2 x3 A fT fP fR fC (nI tN) fQ fW cm sr fG ar tc t0 t1 hg kd pA pB pC us rp rg r1 r2 sb gl pa ok rY st (n + 1) (nI i) := by
  have vi : vp_in (nI i) 64 := vp_in_nI (by omega) (by omega)
  have ci : (nI i).toNatClampNeg = i := nI_clamp (by omega)
  obtain ⟨h1, h2, h3⟩ := hy
  have k : wY_term_102 post (wY_term_65 post c x2 x3 A fT fP fR fC (nI tN) fQ fW cm sr fG ar tc t0 t1 hg kd pA pB pC us rp rg r1 r2 sb gl pa ok rY st n) c x2 x3 A (nI i) fT fP fR fC (nI tN) fQ fW cm sr fG ar tc t0 t1 hg kd pA pB pC us rp rg r1 r2 sb gl pa ok rY st := by
    refine br_c (fun _ => h) (fun z => ⟨vi, br_t ?_ h⟩)
    rw [ci]
    exact h3.resolve_left z
  refine br_f (nI_ge hi (by omega)) ⟨vi, br_t (by rw [ci]; exact h1) (br_c (fun _ => k) (fun z => ⟨vi, br_t ?_ k⟩))⟩
  rw [ci]
  exact h2.resolve_left z
theorem yy_next {post : Int32 → SY → Prop} {c x2 x3 A : Int32} {i n : Nat} (ht6 : tN ≤ 64) (hi : i < tN) (hy : ¬ bm_YF tc t0 t1 c x2 x3 A i) (h : wY_term_65 post c x2 x3 A fT fP fR fC (nI tN) fQ fW cm sr fG ar tc t0 t1 hg kd pA pB pC us rp rg r1 r2 sb gl pa ok rY st n (nI (i + 1))) : wY_term_65 post c x2 x3 A fT fP fR fC (nI tN) fQ fW cm sr fG ar tc t0 t1 hg kd pA pB pC us rp rg r1 r2 sb gl pa ok rY st (n + 1) (nI i) := by
  have vi : vp_in (nI i) 64 := vp_in_nI (by omega) (by omega)
  have ci : (nI i).toNatClampNeg = i := nI_clamp (by omega)
  have k : (tc i = c) → (A < 1 ∨ t0 i = x2) → wY_term_102 post (wY_term_65 post c x2 x3 A fT fP fR fC (nI tN) fQ fW cm sr fG ar tc t0 t1 hg kd pA pB pC us rp rg r1 r2 sb gl pa ok rY st n) c x2 x3 A (nI i) fT fP fR fC (nI tN) fQ fW cm sr fG ar tc t0 t1 hg kd pA pB pC us rp rg r1 r2 sb gl pa ok rY st := by
    intro a b
    refine br_c (fun z => absurd ⟨a, b, Or.inl z⟩ hy) (fun z => ⟨vi, br_c (fun w => ?_) (fun _ => nm_r (nI_1 i) h)⟩)
    rw [ci] at w
    exact absurd ⟨a, b, Or.inr w⟩ hy
  refine br_f (nI_ge hi (by omega)) ⟨vi, br_c (fun a => br_c (fun b => k (by rw [ci] at a; exact a) (Or.inl b)) (fun b => ⟨vi, br_c (fun w => k (by rw [ci] at a; exact a) (Or.inr (by rw [ci] at w; exact w))) (fun _ => nm_r (nI_1 i) h)⟩)) (fun _ => nm_r (nI_1 i) h)⟩
theorem yy_find_f {post : Int32 → SY → Prop} {c x2 x3 A : Int32} (ht6 : tN ≤ 64) (hno : ∀ i, i < tN → ¬ bm_YF tc t0 t1 c x2 x3 A i) (h : ∀ n, wY_term_65 post c x2 x3 A fT fP fR fC (nI tN) fQ fW cm sr fG ar tc t0 t1 hg kd pA pB pC us rp rg r1 r2 sb gl pa ok rY st (n + 1) (nI tN)) : ∀ (d i n : Nat), i + d = tN → d < n → wY_term_65 post c x2 x3 A fT fP fR fC (nI tN) fQ fW cm sr fG ar tc t0 t1 hg kd pA pB pC us rp rg r1 r2 sb gl pa ok rY st n (nI i) := by
  intro d
  induction d with
  | zero =>
    intro i n hi hn
    obtain ⟨m, rfl⟩ : ∃ m, n = m + 1 := ⟨n - 1, by omega⟩
    have e : i = tN := by omega
    rw [e]
    exact h m
  | succ d ih =>
    intro i n hi hn
    obtain ⟨m, rfl⟩ : ∃ m, n = m + 1 := ⟨n - 1, by omega⟩
    exact yy_next ht6 (by omega) (hno i (by omega)) (ih (i + 1) m (by omega) (by omega))
theorem yy_find_t {post : Int32 → SY → Prop} {c x2 x3 A : Int32} {j : Nat} (ht6 : tN ≤ 64) (hj : j < tN) (hno : ∀ i, i < j → ¬ bm_YF tc t0 t1 c x2 x3 A i) (hy : bm_YF tc t0 t1 c x2 x3 A j) (h : post (nI j) (fT, fP, fR, fC, nI tN, fQ, fW, cm, sr, fG, ar, tc, t0, t1, hg, kd, pA, pB, pC, us, rp, rg, r1, r2, sb, gl, pa, ok, rY, st)) : ∀ (d i n : Nat), i + d = j → d < n → wY_term_65 post c x2 x3 A fT fP fR fC (nI tN) fQ fW cm sr fG ar tc t0 t1 hg kd pA pB pC us rp rg r1 r2 sb gl pa ok rY st n (nI i) := by
  intro d
  induction d with
  | zero =>
    intro i n hi hn
    obtain ⟨m, rfl⟩ : ∃ m, n = m + 1 := ⟨n - 1, by omega⟩
    have e : i = j := by omega
    rw [e]
    exact yy_hit ht6 hj hy h
  | succ d ih =>
    intro i n hi hn
    obtain ⟨m, rfl⟩ : ∃ m, n = m + 1 := ⟨n - 1, by omega⟩
    exact yy_next ht6 (by omega) (hno i (by omega)) (ih (i + 1) m (by omega) (by omega))
end
