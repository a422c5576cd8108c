/-! pat -/
section
variable {fT fP fR fC fN fQ fW cm sr fG pk : Int32} {ar tc t0 t1 hX kd pl pf ps us fi rp rg r1 r2 sb gl rb pp pt hg pA pB pC pa ok rY st : Nat → Int32} {H sz : Nat → Nat} {cN pN tN rN : Nat}
theorem xx_84 {post : Int32 → SX → Prop} (hcN : cN ≤ 8) (hp6 : pN < 64) (ht6 : tN ≤ 64) (hN : ∀ p, p < pN + 1 → bm_Nd ar kd pl pf ps pA pB pC cN p) (hT : ∀ t, t < tN → bm_Tm ar tc t0 t1 hX H cN t)
    (hpost : ∀ fi', bm_IF kd pl pf ps tc t0 t1 fi' (pN + 1) tN → post (nI pN) (fT, fP, fR, fC, nI tN, fQ, fW, cm, sr, fG, pk, ar, tc, t0, t1, hX, kd, pl, pf, ps, us, fi', rp, rg, r1, r2, sb, gl, rb, pp, pt)) : ∀ (d i n : Nat) (fi : Nat → Int32), i + d = tN → d < n →
      bm_FG kd pl pf ps tc t0 t1 fi (fun p t => t < tN ∧ (p < pN ∨ (p = pN ∧ t < i))) → wX_storePattern_84 post (nI pN) n (nI i) fT fP fR fC (nI tN) fQ fW cm sr fG pk ar tc t0 t1 hX kd pl pf ps us fi rp rg r1 r2 sb gl rb pp pt := by
  intro d
  induction d with
  | zero =>
    intro i n fi hi hn hF
    obtain ⟨m, rfl⟩ : ∃ m, n = m + 1 := ⟨n - 1, by omega⟩
    exact br_t (nI_le (by omega) (by omega)) (hpost fi (bm_FG_pe (bm_FG_m hF (fun p t z => by omega))))
  | succ d ih =>
    intro i n fi hi hn hF
    obtain ⟨m, rfl⟩ : ∃ m, n = m + 1 := ⟨n - 1, by omega⟩
    exact br_f (nI_ge (by omega) (by omega)) (xx_record hcN (by omega) (by omega) (hN pN (by omega)) (hT i (by omega)) hF.1 (fun v hv hn' => nm_r (nI_1 i) (ih (i + 1) m _ (by omega) (by omega) (bm_FG_ps hp6 ht6 hN hT (by omega) hF hn' hv))))
theorem xx_59 {post : Int32 → SX → Prop} {s : Int32} (hs : bm_Fr us pN s ∨ s = -1 ∨ ∃ r, r < 64 ∧ s = nI r) (hp6 : pN < 64) (h : ∃ n, wX_storePattern_84 post (nI pN) n 0 fT fP fR fC fN (nI (pN + 1)) fW cm sr fG pk ar tc t0 t1 hX kd pl pf ps (bm_mark us s) fi rp rg r1 r2 sb gl rb pp pt) : wX_storePattern_59 post s (nI pN) fT fP fR fC fN fQ fW cm sr fG pk ar tc t0 t1 hX kd pl pf ps us fi rp rg r1 r2 sb gl rb pp pt := by
  have hs' : s = -1 ∨ ∃ r, r < 64 ∧ s = nI r := by
    rcases hs with (e | ⟨q, hq, e, _⟩) | e
    · exact Or.inl e
    · exact Or.inr ⟨q, by omega, e⟩
    · exact e
  rcases hs' with rfl | ⟨r, hr, rfl⟩
  · rw [bm_mark_n] at h
    exact br_t rfl (nm_r (nI_1 pN) h)
  · rw [bm_mark_s (by omega)] at h
    exact br_f (bm_ne1 (by omega)) ⟨vp_in_nI hr (by decide), nm_r (by rw [nI_clamp (by omega), bm_vb1]) (nm_r (nI_1 pN) h)⟩
theorem xx_storePat {post : Int32 → SX → Prop} {k a f s : Int32} (hcN : cN ≤ 8) (hp6 : pN < 64) (hT : bm_IT ar tc t0 t1 hX H cN tN) (hF : bm_IF kd pl pf ps tc t0 t1 fi pN tN) (hf : bm_Fr us pN f) (hs : bm_Fr us pN s)
    (hN : ∀ p, p < pN + 1 → bm_Nd ar (upd kd pN k) (upd pl pN a) (upd pf pN f) (upd ps pN s) pA pB pC cN p)
    (hpost : ∀ fi', bm_IF (upd kd pN k) (upd pl pN a) (upd pf pN f) (upd ps pN s) tc t0 t1 fi' (pN + 1) tN → post (nI pN) (fT, fP, fR, fC, nI tN, nI (pN + 1), fW, cm, sr, fG, pk, ar, tc, t0, t1, hX, upd kd pN k, upd pl pN a, upd pf pN f, upd ps pN s, bm_mark (bm_mark (upd us pN 0) f) s, fi', rp, rg, r1, r2, sb, gl, rb, pp, pt)) :
    wpX_storePattern post (fT, fP, fR, fC, nI tN, nI pN, fW, cm, sr, fG, pk, ar, tc, t0, t1, hX, kd, pl, pf, ps, us, fi, rp, rg, r1, r2, sb, gl, rb, pp, pt) k a f s := by
  have vi : vp_in (nI pN) 64 := vp_in_nI hp6 (by omega)
  have L : ∃ n, wX_storePattern_84 post (nI pN) n 0 fT fP fR fC (nI tN) (nI (pN + 1)) fW cm sr fG pk ar tc t0 t1 hX (upd kd pN k) (upd pl pN a) (upd pf pN f) (upd ps pN s) (bm_mark (bm_mark (upd us pN 0) f) s) fi rp rg r1 r2 sb gl rb pp pt :=
    ⟨tN + 1, xx_84 hcN hp6 hT.1 hN hT.2 hpost tN 0 (tN + 1) fi (by omega) (by omega) (bm_FG_p hF)⟩
  have hs' : s = -1 ∨ ∃ r, r < 64 ∧ s = nI r := by
    rcases hs with e | ⟨q, hq, e, _⟩
    · exact Or.inl e
    · exact Or.inr ⟨q, by omega, e⟩
  have L2 := xx_59 (fQ := nI pN) (Or.inr hs') hp6 L
  refine ⟨vi, nm_r (bm_uq (by omega)) ⟨vi, nm_r (bm_uq (by omega)) ⟨vi, nm_r (bm_uq (by omega)) ⟨vi, nm_r (bm_uq (by omega)) ⟨vi, nm_r (by rw [nI_clamp (by omega), bm_vb0]) ?_⟩⟩⟩⟩⟩
  rcases hf with rfl | ⟨q, hq, rfl, _⟩
  · rw [bm_mark_n] at L2
    exact br_t rfl L2
  · rw [bm_mark_s (by omega)] at L2
    exact br_f (bm_ne1 (by omega)) ⟨vp_in_nI (by omega) (by decide), nm_r (by rw [nI_clamp (by omega), bm_vb1]) L2⟩
theorem yy_245 {post : Int32 → SY → Prop} {x1 x5 x6 x7 : Int32} (hp6 : pN < 64) (h : post (nI (pN + 1) - 1) (fT, fP, fR, fC, fN, nI (pN + 1), fW, cm, sr, fG, ar, tc, t0, t1, hg, upd kd pN x1, upd pA pN x5, upd pB pN x6, upd pC pN x7, upd us pN 0, rp, rg, r1, r2, sb, gl, pa, ok, rY, st)) : wY_pat_245 post x1 x5 x6 x7 fT fP fR fC fN (nI pN) fW cm sr fG ar tc t0 t1 hg kd pA pB pC us rp rg r1 r2 sb gl pa ok rY st := by
  have vi : vp_in (nI pN) 64 := vp_in_nI hp6 (by omega)
  exact ⟨vi, nm_r (bm_uq (by omega)) ⟨vi, nm_r (bm_uq (by omega)) ⟨vi, nm_r (bm_uq (by omega)) ⟨vi, nm_r (bm_uq (by omega)) ⟨vi, nm_r (by rw [nI_clamp (by omega), bm_vb0]) (nm_r (nI_1 pN) h)⟩⟩⟩⟩⟩
theorem yy_232_n {post : Int32 → SY → Prop} {x1 x5 x6 : Int32} (h : wY_pat_245 post x1 x5 x6 (-1) fT fP fR fC fN fQ fW cm sr fG ar tc t0 t1 hg kd pA pB pC us rp rg r1 r2 sb gl pa ok rY st) : wY_pat_232 post x1 x5 x6 (-1) fT fP fR fC fN fQ fW cm sr fG ar tc t0 t1 hg kd pA pB pC us rp rg r1 r2 sb gl pa ok rY st := br_t (by decide) h
theorem yy_232_s {post : Int32 → SY → Prop} {x1 x5 x6 : Int32} {r : Nat} (hr : r < 64) (h : wY_pat_245 post x1 x5 x6 (nI r) fT fP fR fC fN fQ fW cm sr fG ar tc t0 t1 hg kd pA pB pC (upd us r 1) rp rg r1 r2 sb gl pa ok rY st) : wY_pat_232 post x1 x5 x6 (nI r) fT fP fR fC fN fQ fW cm sr fG ar tc t0 t1 hg kd pA pB pC us rp rg r1 r2 sb gl pa ok rY st :=
  br_f (bm_nge (by omega)) ⟨vp_in_nI hr (by decide), nm_r (by rw [nI_clamp (by omega), bm_vb1]) h⟩
theorem yy_215_n {post : Int32 → SY → Prop} {x1 x5 x7 : Int32} (h : wY_pat_232 post x1 x5 (-1) x7 fT fP fR fC fN fQ fW cm sr fG ar tc t0 t1 hg kd pA pB pC us rp rg r1 r2 sb gl pa ok rY st) : wY_pat_215 post x1 x5 (-1) x7 fT fP fR fC fN fQ fW cm sr fG ar tc t0 t1 hg kd pA pB pC us rp rg r1 r2 sb gl pa ok rY st := br_c (fun _ => h) (fun _ => br_t (by decide) h)
theorem yy_215_s {post : Int32 → SY → Prop} {x1 x5 x7 : Int32} {q : Nat} (h1 : ¬ x1 = 0) (hq : q < 64) (h : wY_pat_232 post x1 x5 (nI q) x7 fT fP fR fC fN fQ fW cm sr fG ar tc t0 t1 hg kd pA pB pC (upd us q 1) rp rg r1 r2 sb gl pa ok rY st) : wY_pat_215 post x1 x5 (nI q) x7 fT fP fR fC fN fQ fW cm sr fG ar tc t0 t1 hg kd pA pB pC us rp rg r1 r2 sb gl pa ok rY st :=
  br_f h1 (br_f (bm_nge (by omega)) ⟨vp_in_nI hq (by decide), nm_r (by rw [nI_clamp (by omega), bm_vb1]) h⟩)
theorem yy_203_o {post : Int32 → SY → Prop} {x5 x6 x7 : Int32} {q : Nat} (hq : q < 64) (h : wY_pat_215 post 3 x5 x6 x7 fT fP fR fC fN fQ fW cm sr fG ar tc t0 t1 hg kd pA pB pC (upd us q 1) rp rg r1 r2 sb gl pa ok rY st) : wY_pat_203 post 3 (nI q) x5 x6 x7 fT fP fR fC fN fQ fW cm sr fG ar tc t0 t1 hg kd pA pB pC us rp rg r1 r2 sb gl pa ok rY st :=
  br_t rfl ⟨vp_in_nI hq (by decide), nm_r (by rw [nI_clamp (by omega), bm_vb1]) h⟩
theorem yy_ch_t {post : Int32 → Prop} {q : Nat} (hq : q < pN) (h6 : pN ≤ 64) (h0 : us q = 0) (h : post 1) : wpY_validChild post (fT, fP, fR, fC, fN, nI pN, fW, cm, sr, fG, ar, tc, t0, t1, hg, kd, pA, pB, pC, us, rp, rg, r1, r2, sb, gl, pa, ok, rY, st) (nI q) :=
  br_f (bm_nge (by omega)) (br_f (nI_ge hq (by omega)) ⟨vp_in_nI (by omega) (by omega), br_t (by rw [nI_clamp (by omega)]; exact h0) h⟩)
theorem yy_ch_f {post : Int32 → Prop} {b : Int32} (h6 : pN ≤ 64) (hb : bm_NFree us pN b) (h : post 0) : wpY_validChild post (fT, fP, fR, fC, fN, nI pN, fW, cm, sr, fG, ar, tc, t0, t1, hg, kd, pA, pB, pC, us, rp, rg, r1, r2, sb, gl, pa, ok, rY, st) b := by
  rcases hb with z | z | ⟨q, hq, rfl, h0⟩
  · exact br_t z h
  · exact br_c (fun _ => h) (fun _ => br_t z h)
  · exact br_f (bm_nge (by omega)) (br_f (nI_ge hq (by omega)) ⟨vp_in_nI (by omega) (by omega), br_f (by rw [nI_clamp (by omega)]; exact h0) h⟩)
end
/-- the flags of the two sides -/
theorem bm_us1 {us : Nat → Int32} {n q : Nat} (hq : q < n) (hn : n ≤ 64) : upd (upd us q 1) n 0 = bm_mark (bm_mark (upd us n 0) (nI q)) (-1) := by
  rw [bm_mark_n, bm_mark_s (by omega), bm_uc (by omega)]
theorem bm_us2 {us : Nat → Int32} {n q r : Nat} (hq : q < n) (hr : r < n) (hn : n ≤ 64) : upd (upd (upd us q 1) r 1) n 0 = bm_mark (bm_mark (upd us n 0) (nI q)) (nI r) := by
  rw [bm_mark_s (by omega), bm_mark_s (by omega), bm_uc (by omega), bm_uc (i := q) (by omega)]
theorem bm_us0 {us : Nat → Int32} {n : Nat} : upd us n 0 = bm_mark (bm_mark (upd us n 0) (-1)) (-1) := by
  rw [bm_mark_n, bm_mark_n]
section
variable {T P R cN tN pN rN gN : Nat} {cm sr pk : Int32} {ar tc t0 t1 hX kd pl pf ps us fi rp rg r1 r2 sb gl rb pp pt hg pA pB pC pa ok rY st : Nat → Int32} {H sz : Nat → Nat}
/-- a new node, on both sides: what the component stores, then what the reference's end owes -/
theorem bm_pat_new {post : Int32 → SX → Prop} {k' : Nat} {k a f s A B C : Int32} (J : bm_J T P R cN tN pN rN gN ar tc t0 t1 hX kd pl pf ps us fi rp rg r1 r2 pA pB pC H sz) (hlt : pN < P)
    (hf : bm_Fr us pN f) (hs : bm_Fr us pN s) (hfs : f = -1 ∨ s = -1 ∨ f ≠ s)
    (hnd : bm_Nd ar (upd kd pN k) (upd pl pN a) (upd pf pN f) (upd ps pN s) (upd pA pN A) (upd pB pN B) (upd pC pN C) cN pN)
    (hpost : ∀ fi', i_Rel k' (nI T, nI P, nI R, nI cN, nI tN, nI (pN + 1), nI rN, cm, sr, nI gN, pk, ar, tc, t0, t1, hX, upd kd pN k, upd pl pN a, upd pf pN f, upd ps pN s, bm_mark (bm_mark (upd us pN 0) f) s, fi', rp, rg, r1, r2, sb, gl, rb, pp, pt) (nI T, nI P, nI R, nI cN, nI tN, nI (pN + 1), nI rN, cm, sr, nI gN, ar, tc, t0, t1, hg, upd kd pN k, upd pA pN A, upd pB pN B, upd pC pN C, bm_mark (bm_mark (upd us pN 0) f) s, rp, rg, r1, r2, sb, gl, pa, ok, rY, st) → post (nI pN) (nI T, nI P, nI R, nI cN, nI tN, nI (pN + 1), nI rN, cm, sr, nI gN, pk, ar, tc, t0, t1, hX, upd kd pN k, upd pl pN a, upd pf pN f, upd ps pN s, bm_mark (bm_mark (upd us pN 0) f) s, fi', rp, rg, r1, r2, sb, gl, rb, pp, pt)) : wpX_storePattern post (nI T, nI P, nI R, nI cN, nI tN, nI pN, nI rN, cm, sr, nI gN, pk, ar, tc, t0, t1, hX, kd, pl, pf, ps, us, fi, rp, rg, r1, r2, sb, gl, rb, pp, pt) k a f s := by
  obtain ⟨hJ, hAr, hIP, hIT, hIF, hIR⟩ := id J
  have hIP' := bm_IP_new hIP (by omega) k a f s A B C hf hs hfs hnd
  refine xx_storePat hJ.2.2.2.2.2.2.2 (by omega) hIT hIF hf hs hIP'.2.1 (fun fi' hF => hpost _ (bm_mk (H := H) (sz := bm_un sz pN (1 + bm_szc sz f + bm_szc sz s)) ?_))
  exact ⟨⟨hJ.1, hJ.2.1, hlt, hJ.2.2.2⟩, hAr, hIP', hIT, hF, bm_IR_p hIR⟩
end
