/-! the owed statement of pat -/
section
variable {fT fP fR fC fN fQ fW cm sr fG pk : Int32} {ar tc t0 t1 hX kd pl pf ps us fi rp rg r1 r2 sb gl rb pp pt hg pA pB pC pa ok rY st : Nat → Int32} {H sz : Nat → Nat} {cN pN tN rN q r : Nat}
theorem xx_cc0 {post : Int32 → Prop} {A b c : Int32} (h1 : A < 1) (h2 : A < 2) (h : post 1) : wpX_consChildrenAreValid post (fT, fP, fR, fC, fN, fQ, fW, cm, sr, fG, pk, ar, tc, t0, t1, hX, kd, pl, pf, ps, us, fi, rp, rg, r1, r2, sb, gl, rb, pp, pt) A b c := br_t h1 (br_t h2 h)
theorem xx_cc1 {post : Int32 → Prop} {A c : Int32} (h1 : ¬ A < 1) (h2 : A < 2) (hq : q < pN) (h6 : pN ≤ 64) (h0 : us q = 0) (h : post 1) : wpX_consChildrenAreValid post (fT, fP, fR, fC, fN, nI pN, fW, cm, sr, fG, pk, ar, tc, t0, t1, hX, kd, pl, pf, ps, us, fi, rp, rg, r1, r2, sb, gl, rb, pp, pt) A (nI q) c := br_f h1 (xx_free_t hq h6 h0 (br_f bm_n10 (br_t h2 h)))
theorem xx_cc1f {post : Int32 → Prop} {A b c : Int32} (h1 : ¬ A < 1) (h6 : pN ≤ 64) (hb : bm_NFree us pN b) (h : post 0) : wpX_consChildrenAreValid post (fT, fP, fR, fC, fN, nI pN, fW, cm, sr, fG, pk, ar, tc, t0, t1, hX, kd, pl, pf, ps, us, fi, rp, rg, r1, r2, sb, gl, rb, pp, pt) A b c := br_f h1 (xx_free_f h6 hb (br_t rfl h))
theorem xx_cc2 {post : Int32 → Prop} {A : Int32} (h1 : ¬ A < 1) (h2 : ¬ A < 2) (hq : q < pN) (h6 : pN ≤ 64) (h0 : us q = 0) (hr : r < pN) (h0' : us r = 0) (hn : ¬ nI r = nI q) (h : post 1) : wpX_consChildrenAreValid post (fT, fP, fR, fC, fN, nI pN, fW, cm, sr, fG, pk, ar, tc, t0, t1, hX, kd, pl, pf, ps, us, fi, rp, rg, r1, r2, sb, gl, rb, pp, pt) A (nI q) (nI r) :=
  br_f h1 (xx_free_t hq h6 h0 (br_f bm_n10 (br_f h2 (xx_free_t hr h6 h0' (br_f bm_n10 (br_f hn h))))))
theorem xx_cc2f {post : Int32 → Prop} {A c : Int32} (h1 : ¬ A < 1) (h2 : ¬ A < 2) (hq : q < pN) (h6 : pN ≤ 64) (h0 : us q = 0) (hc : bm_NFree us pN c) (h : post 0) : wpX_consChildrenAreValid post (fT, fP, fR, fC, fN, nI pN, fW, cm, sr, fG, pk, ar, tc, t0, t1, hX, kd, pl, pf, ps, us, fi, rp, rg, r1, r2, sb, gl, rb, pp, pt) A (nI q) c :=
  br_f h1 (xx_free_t hq h6 h0 (br_f bm_n10 (br_f h2 (xx_free_f h6 hc (br_t rfl h)))))
theorem xx_cc2e {post : Int32 → Prop} {A : Int32} (h1 : ¬ A < 1) (h2 : ¬ A < 2) (hq : q < pN) (h6 : pN ≤ 64) (h0 : us q = 0) (hr : r < pN) (h0' : us r = 0) (hn : nI r = nI q) (h : post 0) : wpX_consChildrenAreValid post (fT, fP, fR, fC, fN, nI pN, fW, cm, sr, fG, pk, ar, tc, t0, t1, hX, kd, pl, pf, ps, us, fi, rp, rg, r1, r2, sb, gl, rb, pp, pt) A (nI q) (nI r) :=
  br_f h1 (xx_free_t hq h6 h0 (br_f bm_n10 (br_f h2 (xx_free_t hr h6 h0' (br_f bm_n10 (br_t hn h))))))
end
theorem i_vc_pat {k : Nat} {u : SX} {v : SY} (I : i_Rel k u v) (hk : k + 5 ≤ 2563) (v1 : Int32) (v2 : Int32) (v3 : Int32) (v4 : Int32) : wpX_pat (fun r u' => wpY_pat (fun r' v' => r' = r ∧ i_Rel (k + 5) u' v') v v1 v2 v3 v4) u v1 v2 v3 v4 := by
  obtain ⟨T, P, R, cN, tN, pN, rN, gN, cm, sr, pk, ar, tc, t0, t1, hX, kd, pl, pf, ps, us, fi, rp, rg, r1, r2, sb, gl, rb, pp, pt, hg, pA, pB, pC, pa, ok, rY, st, H, sz, rfl, rfl, J⟩ := I
  obtain ⟨hJ, hAr, hIP, hIT, hIF, hIR⟩ := id J
  have h8 : cN ≤ 8 := hJ.2.2.2.2.2.2.2
  have h6 := hIP.1
  refine br_c (fun a => br_c (fun b => br_t a (br_t b ⟨rfl, bm_mk J⟩)) (fun b => br_c (fun c => br_t a (br_f b (br_t c ⟨rfl, bm_mk J⟩))) (fun c => br_c (fun d => ?_) (fun d => br_t a (br_f b (br_f c (br_f d ⟨rfl, bm_mk J⟩))))))) (fun a => br_f a ⟨rfl, bm_mk J⟩)
  have hlt : pN < P := by
    have : pN ≠ P := fun e => b (by rw [e])
    omega
  have h64 : pN < 64 := by omega
  have fn : bm_Fr us pN (-1) := Or.inl rfl
  have fs : ∀ q, q < pN → us q = 0 → bm_Fr us pN (nI q) := fun q hq h0 => Or.inr ⟨q, hq, rfl, h0⟩
  have ne : ∀ q r : Nat, q < pN → r < pN → ¬ nI r = nI q → q ≠ r := fun q r _ _ h e => h (by rw [e])
  rcases bm_k4 c d with rfl | rfl | rfl | rfl
  · refine br_t (by decide) (br_f bm_n10 (br_t (by decide) (br_f (by decide) (br_f (by decide) ?_))))
    refine bm_pat_new (hg := hg) (pa := pa) (ok := ok) (rY := rY) (st := st) (k' := k + 5) (A := -1) (B := -1) (C := -1) J hlt fn fn (Or.inl rfl) (Or.inl ⟨pk_us, pk_us, pk_us⟩) (fun u' hR => ?_)
    refine br_t a (br_f b (br_f c (br_t d (br_f (by decide) (br_f (by decide) (br_f (by decide) (br_f (by decide) (yy_215_n (yy_232_n (yy_245 h64 ⟨nI_pred pN, ?_⟩))))))))))
    rw [bm_us0 (us := us) (n := pN)]
    exact hR
  · rcases bm_bad_or (n := 8) (by decide) v2 with z | ⟨x, hx, rfl⟩
    · exact br_f (by decide) (br_f (by decide) (br_t rfl (xx_var_f z (br_t rfl (br_t rfl (br_t a (br_f b (br_f c (br_t d (br_t rfl (br_c (fun _ => ⟨rfl, bm_mk J⟩) (fun w => br_f (bm_nle7 (z.resolve_left w)) ⟨rfl, bm_mk J⟩))))))))))))
    rcases bm_free us h6 v3 with ⟨q, hq, rfl, h0⟩ | z
    · refine br_f (by decide) (br_f (by decide) (br_t rfl (xx_var_t hx (br_f bm_n10 (xx_free_t hq h6 h0 (br_f bm_n10 (br_f bm_n10 (br_f (by decide) (br_f (by decide) (br_t rfl (br_f (by decide) (br_f (by decide) ?_))))))))))))
      refine bm_pat_new (hg := hg) (pa := pa) (ok := ok) (rY := rY) (st := st) (k' := k + 5) (A := nI x) (B := nI q) (C := -1) J hlt (fs q hq h0) fn (Or.inr (Or.inl rfl)) (Or.inr (Or.inl ⟨x, q, pk_us, hx, hq, pk_us, pk_us, pk_us, pk_us, pk_us⟩)) (fun u' hR => ?_)
      refine br_t a (br_f b (br_f c (br_t d (br_t rfl (br_f (bm_nge (by omega)) (br_t (bm_le7 hx) (yy_ch_t hq h6 h0 (br_f bm_n10 (br_f (by decide) (yy_215_s (by decide) (by omega) (yy_232_n (yy_245 h64 ⟨nI_pred pN, ?_⟩))))))))))))
      rw [bm_us1 hq (by omega)]
      exact hR
    · exact br_f (by decide) (br_f (by decide) (br_t rfl (xx_var_t hx (br_f bm_n10 (xx_free_f h6 z (br_t rfl (br_t rfl (br_t a (br_f b (br_f c (br_t d (br_t rfl (br_f (bm_nge (by omega)) (br_t (bm_le7 hx) (yy_ch_f h6 z (br_t rfl ⟨rfl, bm_mk J⟩))))))))))))))))
  · rcases bm_bad_or (n := cN) (by omega) v2 with z | ⟨l, hl, rfl⟩
    · exact br_f (by decide) (br_f (by decide) (br_f (by decide) (br_t rfl (xx_cons_f z (br_t rfl (br_t rfl (br_t a (br_f b (br_f c (br_t d (br_f (by decide) (br_t rfl (br_c (fun _ => ⟨rfl, bm_mk J⟩) (fun w => br_f (Int32.not_lt.mpr (z.resolve_left w)) ⟨rfl, bm_mk J⟩))))))))))))))
    have vl : vp_in (nI l) 8 := vp_in_nI (by omega) (by decide)
    have cl : ∀ A, ar l = A → ar (nI l).toNatClampNeg = A := fun A e => by rw [nI_clamp (by omega), e]
    rcases hAr l hl with ea | ea | ea
    · have e := cl 0 ea
      refine br_f (by decide) (br_f (by decide) (br_f (by decide) (br_t rfl (xx_cons_t hl h8 (br_f bm_n10 ⟨vl, xx_cc0 (by rw [e]; decide) (by rw [e]; decide) (br_f bm_n10 (br_f bm_n10 (br_f (by decide) (br_f (by decide) (br_f (by decide) (br_t rfl ⟨vl, br_t (by rw [e]; decide) (br_t rfl ⟨vl, br_f (by rw [e]; decide) ?_⟩)⟩))))))⟩)))))
      refine bm_pat_new (hg := hg) (pa := pa) (ok := ok) (rY := rY) (st := st) (k' := k + 5) (A := nI l) (B := -1) (C := -1) J hlt fn fn (Or.inl rfl) (Or.inr (Or.inr (Or.inl ⟨l, pk_us, hl, ea, pk_us, pk_us, pk_us, pk_us⟩))) (fun u' hR => ?_)
      refine br_t a (br_f b (br_f c (br_t d (br_f (by decide) (br_t rfl (br_f (bm_nge (by omega)) (br_t (nI_lt hl (by omega)) ⟨vl, nm_r e (br_t (by decide) (br_f (by decide) (br_t (by decide) (br_f (by decide) (br_f (by decide) (yy_215_n (yy_232_n (yy_245 h64 ⟨nI_pred pN, ?_⟩))))))))⟩)))))))
      rw [bm_us0 (us := us) (n := pN)]
      exact hR
    · have e := cl 1 ea
      rcases bm_free us h6 v3 with ⟨q, hq, rfl, h0⟩ | z
      · refine br_f (by decide) (br_f (by decide) (br_f (by decide) (br_t rfl (xx_cons_t hl h8 (br_f bm_n10 ⟨vl, xx_cc1 (by rw [e]; decide) (by rw [e]; decide) hq h6 h0 (br_f bm_n10 (br_f bm_n10 (br_f (by decide) (br_f (by decide) (br_f (by decide) (br_t rfl ⟨vl, br_f (by rw [e]; decide) (br_t rfl ⟨vl, br_f (by rw [e]; decide) ?_⟩)⟩))))))⟩)))))
        refine bm_pat_new (hg := hg) (pa := pa) (ok := ok) (rY := rY) (st := st) (k' := k + 5) (A := nI l) (B := nI q) (C := -1) J hlt (fs q hq h0) fn (Or.inr (Or.inl rfl)) (Or.inr (Or.inr (Or.inr (Or.inl ⟨l, q, pk_us, hl, ea, hq, pk_us, pk_us, pk_us, pk_us, pk_us⟩)))) (fun u' hR => ?_)
        refine br_t a (br_f b (br_f c (br_t d (br_f (by decide) (br_t rfl (br_f (bm_nge (by omega)) (br_t (nI_lt hl (by omega)) ⟨vl, nm_r e (br_f (by decide) (yy_ch_t hq h6 h0 (br_f bm_n10 (br_f (by decide) (br_f (by decide) (br_f (by decide) (br_f (by decide) (yy_215_s (by decide) (by omega) (yy_232_n (yy_245 h64 ⟨nI_pred pN, ?_⟩))))))))))⟩)))))))
        rw [bm_us1 hq (by omega)]
        exact hR
      · exact br_f (by decide) (br_f (by decide) (br_f (by decide) (br_t rfl (xx_cons_t hl h8 (br_f bm_n10 ⟨vl, xx_cc1f (by rw [e]; decide) h6 z (br_t rfl (br_t rfl (br_t a (br_f b (br_f c (br_t d (br_f (by decide) (br_t rfl (br_f (bm_nge (by omega)) (br_t (nI_lt hl (by omega)) ⟨vl, nm_r e (br_f (by decide) (yy_ch_f h6 z (br_t rfl ⟨rfl, bm_mk J⟩)))⟩))))))))))⟩)))))
    · have e := cl 2 ea
      rcases bm_free us h6 v3 with ⟨q, hq, rfl, h0⟩ | z
      · rcases bm_free us h6 v4 with ⟨r, hr, rfl, h0'⟩ | z
        · by_cases en : nI r = nI q
          · exact br_f (by decide) (br_f (by decide) (br_f (by decide) (br_t rfl (xx_cons_t hl h8 (br_f bm_n10 ⟨vl, xx_cc2e (by rw [e]; decide) (by rw [e]; decide) hq h6 h0 hr h0' en (br_t rfl (br_t rfl (br_t a (br_f b (br_f c (br_t d (br_f (by decide) (br_t rfl (br_f (bm_nge (by omega)) (br_t (nI_lt hl (by omega)) ⟨vl, nm_r e (br_f (by decide) (yy_ch_t hq h6 h0 (br_f bm_n10 (br_t rfl (yy_ch_t hr h6 h0' (br_f bm_n10 (br_t en ⟨rfl, bm_mk J⟩)))))))⟩))))))))))⟩)))))
          · refine br_f (by decide) (br_f (by decide) (br_f (by decide) (br_t rfl (xx_cons_t hl h8 (br_f bm_n10 ⟨vl, xx_cc2 (by rw [e]; decide) (by rw [e]; decide) hq h6 h0 hr h0' en (br_f bm_n10 (br_f bm_n10 (br_f (by decide) (br_f (by decide) (br_f (by decide) (br_t rfl ⟨vl, br_f (by rw [e]; decide) (br_t rfl ⟨vl, br_t e ?_⟩)⟩))))))⟩)))))
            refine bm_pat_new (hg := hg) (pa := pa) (ok := ok) (rY := rY) (st := st) (k' := k + 5) (A := nI l) (B := nI q) (C := nI r) J hlt (fs q hq h0) (fs r hr h0') (Or.inr (Or.inr (fun z => en z.symm))) (Or.inr (Or.inr (Or.inr (Or.inr (Or.inl ⟨l, q, r, pk_us, hl, ea, hq, hr, ne q r hq hr en, pk_us, pk_us, pk_us, pk_us, pk_us, pk_us⟩))))) (fun u' hR => ?_)
            refine br_t a (br_f b (br_f c (br_t d (br_f (by decide) (br_t rfl (br_f (bm_nge (by omega)) (br_t (nI_lt hl (by omega)) ⟨vl, nm_r e (br_f (by decide) (yy_ch_t hq h6 h0 (br_f bm_n10 (br_t rfl (yy_ch_t hr h6 h0' (br_f bm_n10 (br_f en (br_f (by decide) (br_t rfl (br_f (by decide) (yy_215_s (by decide) (by omega) (yy_232_s (by omega) (yy_245 h64 ⟨nI_pred pN, ?_⟩)))))))))))))⟩)))))))
            rw [bm_us2 hq hr (by omega)]
            exact hR
        · exact br_f (by decide) (br_f (by decide) (br_f (by decide) (br_t rfl (xx_cons_t hl h8 (br_f bm_n10 ⟨vl, xx_cc2f (by rw [e]; decide) (by rw [e]; decide) hq h6 h0 z (br_t rfl (br_t rfl (br_t a (br_f b (br_f c (br_t d (br_f (by decide) (br_t rfl (br_f (bm_nge (by omega)) (br_t (nI_lt hl (by omega)) ⟨vl, nm_r e (br_f (by decide) (yy_ch_t hq h6 h0 (br_f bm_n10 (br_t rfl (yy_ch_f h6 z (br_t rfl ⟨rfl, bm_mk J⟩))))))⟩))))))))))⟩)))))
      · exact br_f (by decide) (br_f (by decide) (br_f (by decide) (br_t rfl (xx_cons_t hl h8 (br_f bm_n10 ⟨vl, xx_cc1f (by rw [e]; decide) h6 z (br_t rfl (br_t rfl (br_t a (br_f b (br_f c (br_t d (br_f (by decide) (br_t rfl (br_f (bm_nge (by omega)) (br_t (nI_lt hl (by omega)) ⟨vl, nm_r e (br_f (by decide) (yy_ch_f h6 z (br_t rfl ⟨rfl, bm_mk J⟩)))⟩))))))))))⟩)))))
  · rcases bm_free us h6 v2 with ⟨q, hq, rfl, h0⟩ | z
    · rcases bm_free us h6 v3 with ⟨r, hr, rfl, h0'⟩ | z
      · by_cases en : nI q = nI r
        · exact br_f (by decide) (br_f (by decide) (br_f (by decide) (br_f (by decide) (br_t rfl (xx_free_t hq h6 h0 (br_f bm_n10 (xx_free_t hr h6 h0' (br_f bm_n10 (br_t en (br_t rfl (br_t a (br_f b (br_f c (br_t d (br_f (by decide) (br_f (by decide) (br_t rfl (yy_ch_t hq h6 h0 (br_f bm_n10 (yy_ch_t hr h6 h0' (br_f bm_n10 (br_t en ⟨rfl, bm_mk J⟩))))))))))))))))))))))
        · refine br_f (by decide) (br_f (by decide) (br_f (by decide) (br_f (by decide) (br_t rfl (xx_free_t hq h6 h0 (br_f bm_n10 (xx_free_t hr h6 h0' (br_f bm_n10 (br_f en (br_f bm_n10 (br_f (by decide) (br_f (by decide) (br_f (by decide) (br_f (by decide) (br_t rfl (br_f (by decide) (br_t rfl ?_)))))))))))))))))
          refine bm_pat_new (hg := hg) (pa := pa) (ok := ok) (rY := rY) (st := st) (k' := k + 5) (A := nI q) (B := nI r) (C := -1) J hlt (fs q hq h0) (fs r hr h0') (Or.inr (Or.inr en)) (Or.inr (Or.inr (Or.inr (Or.inr (Or.inr ⟨q, r, pk_us, hq, hr, ne q r hq hr (fun z => en z.symm), pk_us, pk_us, pk_us, pk_us⟩))))) (fun u' hR => ?_)
          refine br_t a (br_f b (br_f c (br_t d (br_f (by decide) (br_f (by decide) (br_t rfl (yy_ch_t hq h6 h0 (br_f bm_n10 (yy_ch_t hr h6 h0' (br_f bm_n10 (br_f en (yy_203_o (by omega) (yy_215_s (by decide) (by omega) (yy_232_n (yy_245 h64 ⟨nI_pred pN, ?_⟩)))))))))))))))
          rw [bm_us2 hq hr (by omega)]
          exact hR
      · exact br_f (by decide) (br_f (by decide) (br_f (by decide) (br_f (by decide) (br_t rfl (xx_free_t hq h6 h0 (br_f bm_n10 (xx_free_f h6 z (br_t rfl (br_t rfl (br_t a (br_f b (br_f c (br_t d (br_f (by decide) (br_f (by decide) (br_t rfl (yy_ch_t hq h6 h0 (br_f bm_n10 (yy_ch_f h6 z (br_t rfl ⟨rfl, bm_mk J⟩))))))))))))))))))))
    · exact br_f (by decide) (br_f (by decide) (br_f (by decide) (br_f (by decide) (br_t rfl (xx_free_f h6 z (br_t rfl (br_t rfl (br_t a (br_f b (br_f c (br_t d (br_f (by decide) (br_f (by decide) (br_t rfl (yy_ch_f h6 z (br_t rfl ⟨rfl, bm_mk J⟩))))))))))))))))
