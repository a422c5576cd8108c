/-! match, matchInOrder, rowPatternMatches -/
section
variable {fT fP fR fC fN fQ fW cm sr fG pk : Int32} {ar tc t0 t1 hX kd pl pf ps us fi rp rg r1 r2 sb gl rb pp pt hg pA pB pC pa ok rY st : Nat → Int32} {H sz : Nat → Nat} {cN pN tN rN t : Nat}
theorem xx_s7 {post : SX → Prop} (h : post (fT, fP, fR, fC, fN, fQ, fW, cm, sr, fG, pk, ar, tc, t0, t1, hX, kd, pl, pf, ps, us, fi, rp, rg, r1, r2, bm_cp rb 8 sb, gl, rb, pp, pt)) : ∀ (d i n : Nat), i + d = 8 → d < n → wX_selectRow_7 post fT fP fR fC fN fQ fW cm sr fG pk n (nI i) ar tc t0 t1 hX kd pl pf ps us fi rp rg r1 r2 (bm_cp rb i sb) gl rb pp pt := by
  intro d
  induction d with
  | zero =>
    intro i n hi hn
    obtain ⟨m, rfl⟩ : ∃ m, n = m + 1 := ⟨n - 1, by omega⟩
    have e : i = 8 := by omega
    subst e
    exact br_t (nI_le (a := 8) (Nat.le_refl _) (by decide)) h
  | succ d ih =>
    intro i n hi hn
    obtain ⟨m, rfl⟩ : ∃ m, n = m + 1 := ⟨n - 1, by omega⟩
    have vi : vp_in (nI i) 8 := vp_in_nI (by omega) (by decide)
    exact br_f (nI_ge (b := 8) (by omega) (by decide)) ⟨vi, vi, nm_r (by rw [nI_clamp (by omega), bm_cp_s]) (nm_r (nI_1 i) (ih (i + 1) m (by omega) (by omega)))⟩
theorem xx_sel {post : SX → Prop} {r : Int32} (h : post (fT, fP, fR, fC, fN, fQ, fW, cm, r, fG, pk, ar, tc, t0, t1, hX, kd, pl, pf, ps, us, fi, rp, rg, r1, r2, bm_cp rb 8 sb, gl, rb, pp, pt)) : wpX_selectRow post (fT, fP, fR, fC, fN, fQ, fW, cm, sr, fG, pk, ar, tc, t0, t1, hX, kd, pl, pf, ps, us, fi, rp, rg, r1, r2, sb, gl, rb, pp, pt) r := by
  have k := xx_s7 h 8 0 9 rfl (by decide)
  rw [bm_cp0] at k
  exact ⟨9, k⟩
theorem yy_s124 {post : Int32 → SY → Prop} {r : Int32} (h : post r (fT, fP, fR, fC, fN, fQ, fW, cm, sr, fG, ar, tc, t0, t1, hg, kd, pA, pB, pC, us, rp, rg, r1, r2, bm_cp rY 8 sb, gl, pa, ok, rY, st)) : ∀ (d i n : Nat), i + d = 8 → d < n → wY_match_124 post r fT fP fR fC fN fQ fW cm sr fG n (nI i) ar tc t0 t1 hg kd pA pB pC us rp rg r1 r2 (bm_cp rY i sb) gl pa ok rY st := by
  intro d
  induction d with
  | zero =>
    intro i n hi hn
    obtain ⟨m, rfl⟩ : ∃ m, n = m + 1 := ⟨n - 1, by omega⟩
    have e : i = 8 := by omega
    subst e
    exact br_t (nI_le (a := 8) (Nat.le_refl _) (by decide)) h
  | succ d ih =>
    intro i n hi hn
    obtain ⟨m, rfl⟩ : ∃ m, n = m + 1 := ⟨n - 1, by omega⟩
    have vi : vp_in (nI i) 8 := vp_in_nI (by omega) (by decide)
    exact br_f (nI_ge (b := 8) (by omega) (by decide)) ⟨vi, vi, nm_r (by rw [nI_clamp (by omega), bm_cp_s]) (nm_r (nI_1 i) (ih (i + 1) m (by omega) (by omega)))⟩
theorem yy_sel {post : Int32 → SY → Prop} {r : Int32} (h : post r (fT, fP, fR, fC, fN, fQ, fW, cm, sr, fG, ar, tc, t0, t1, hg, kd, pA, pB, pC, us, rp, rg, r1, r2, bm_cp rY 8 sb, gl, pa, ok, rY, st)) : ∃ n, wY_match_124 post r fT fP fR fC fN fQ fW cm sr fG n 0 ar tc t0 t1 hg kd pA pB pC us rp rg r1 r2 sb gl pa ok rY st := by
  have k := yy_s124 h 8 0 9 rfl (by decide)
  rw [bm_cp0] at k
  exact ⟨9, k⟩
theorem bm_run (hcN : cN ≤ 8) (hP : bm_IP ar kd pl pf ps pA pB pC us sz cN pN) (hT : bm_IT ar tc t0 t1 hX H cN tN) (hF : bm_IF kd pl pf ps tc t0 t1 fi pN tN) (hR : bm_IR rp rg r1 r2 sz pN rN) (ht : t < tN) :
    ∀ (d i gN : Nat) (gl : Nat → Int32), i + d = rN → gN ≤ i → ∃ (res sr' : Int32) (sb' gl' : Nat → Int32) (gN' : Nat), gN' ≤ 8 ∧
      (∀ (post : Int32 → SX → Prop) (n : Nat) (pk : Int32) (rb pp pt : Nat → Int32), d < n → (∀ pk' rb' pp' pt', post res (fT, fP, fR, fC, nI tN, nI pN, nI rN, cm, sr', nI gN', pk', ar, tc, t0, t1, hX, kd, pl, pf, ps, us, fi, rp, rg, r1, r2, sb', gl', rb', pp', pt')) → wX_runMatch_24 post (nI t) n (nI i) fT fP fR fC (nI tN) (nI pN) (nI rN) cm sr (nI gN) pk ar tc t0 t1 hX kd pl pf ps us fi rp rg r1 r2 sb gl rb pp pt) ∧
      (∀ (post : Int32 → SY → Prop) (n : Nat) (hg pa ok rY st : Nat → Int32), d < n → (∀ hg' pa' ok' rY' st', post res (fT, fP, fR, fC, nI tN, nI pN, nI rN, cm, sr', nI gN', ar, tc, t0, t1, hg', kd, pA, pB, pC, us, rp, rg, r1, r2, sb', gl', pa', ok', rY', st')) → wY_match_31 post (nI t) n (nI i) fT fP fR fC (nI tN) (nI pN) (nI rN) cm sr (nI gN) ar tc t0 t1 hg kd pA pB pC us rp rg r1 r2 sb gl pa ok rY st) := by
  have h6 := hP.1
  have t6 := hT.1
  have r8 := hR.1
  intro d
  induction d with
  | zero =>
    intro i gN gl hi hg
    refine ⟨-1, sr, sb, gl, gN, by omega, fun post n pk rb pp pt hn h => ?_, fun post n hg pa ok rY st hn h => ?_⟩
    · obtain ⟨m, rfl⟩ : ∃ m, n = m + 1 := ⟨n - 1, by omega⟩
      exact br_t (nI_le (by omega) (by omega)) (h _ _ _ _)
    · obtain ⟨m, rfl⟩ : ∃ m, n = m + 1 := ⟨n - 1, by omega⟩
      exact br_t (nI_le (by omega) (by omega)) (h _ _ _ _ _)
  | succ d ih =>
    intro i gN gl hi hg
    have hw := hR.2 i (by omega)
    obtain ⟨q, hq, er, hs, _⟩ := id hw
    have vi : vp_in (nI i) 8 := vp_in_nI (by omega) (by decide)
    have ci : (nI i).toNatClampNeg = i := nI_clamp (by omega)
    have er' : rp (nI i).toNatClampNeg = nI q := by rw [ci, er]
    by_cases hf : fi (q * 64 + t) = 0
    · obtain ⟨res, sr', sb', gl', gN', g8, kX, kY⟩ := ih (i + 1) gN gl (by omega) (by omega)
      refine ⟨res, sr', sb', gl', gN', g8, fun post n pk rb pp pt hn h => ?_, fun post n hg pa ok rY st hn h => ?_⟩
      · obtain ⟨m, rfl⟩ : ∃ m, n = m + 1 := ⟨n - 1, by omega⟩
        refine br_f (nI_ge (by omega) (by omega)) ⟨vi, ?_⟩
        rw [er']
        exact xx_fits (by omega) (by omega) hF.1 (br_t hf (nm_r (nI_1 i) (kX post m pk rb pp pt (by omega) h)))
      · obtain ⟨m, rfl⟩ : ∃ m, n = m + 1 := ⟨n - 1, by omega⟩
        refine br_f (nI_ge (by omega) (by omega)) ⟨vi, ?_⟩
        rw [er']
        exact yy_matchPat hcN hP hT hF hq ht (fun pa' ok' hM => br_t hf (nm_r (nI_1 i) (kY post m _ _ _ _ _ (by omega) h)))
    · have hf1 : fi (q * 64 + t) = 1 := bm_01t (hF.1 _) hf
      by_cases g0 : rg i = 0
      · refine ⟨nI i, nI i, bm_cp (fun x => bm_D kd pl pf ps t0 t1 fi x 64 q t) 8 sb, gl, gN, by omega, fun post n pk rb pp pt hn h => ?_, fun post n hg pa ok rY st hn h => ?_⟩
        · obtain ⟨m, rfl⟩ : ∃ m, n = m + 1 := ⟨n - 1, by omega⟩
          refine br_f (nI_ge (by omega) (by omega)) ⟨vi, ?_⟩
          rw [er']
          refine xx_fits (by omega) (by omega) hF.1 (br_f hf (xx_bindRow hcN hP hT hF (by omega) er hq hs ht hf1 (fun pk' rb' pp' pt' hb => ⟨vi, br_t (by rw [ci]; exact g0) (br_f bm_n10 (xx_sel ?_))⟩)))
          rw [bm_cp_e hb]
          exact h _ _ _ _
        · obtain ⟨m, rfl⟩ : ∃ m, n = m + 1 := ⟨n - 1, by omega⟩
          refine br_f (nI_ge (by omega) (by omega)) ⟨vi, ?_⟩
          rw [er']
          refine yy_matchPat hcN hP hT hF hq ht (fun pa' ok' hM => br_f hf ⟨vi, ?_⟩)
          rw [er']
          refine yy_collect hcN hP hT hF hq ht hs hM hf1 (fun rY' st' hb => ⟨vi, br_t (by rw [ci]; exact g0) (br_f bm_n10 (yy_sel ?_))⟩)
          rw [bm_cp_e hb]
          exact h _ _ _ _ _
      · obtain ⟨v, v01, gX, gY⟩ := bm_guard (B := fun x => bm_D kd pl pf ps t0 t1 fi x 64 q t) hcN hT (by omega) hw g0 (fun x hx => bm_D_r hcN hP hT hF (q + 1) q t (by omega) hq ht hf1)
        rcases v01 with rfl | rfl
        · obtain ⟨res, sr', sb', gl', gN', g8, kX, kY⟩ := ih (i + 1) (gN + 1) (upd gl gN (nI i)) (by omega) (by omega)
          refine ⟨res, sr', sb', gl', gN', g8, fun post n pk rb pp pt hn h => ?_, fun post n hg pa ok rY st hn h => ?_⟩
          · obtain ⟨m, rfl⟩ : ∃ m, n = m + 1 := ⟨n - 1, by omega⟩
            refine br_f (nI_ge (by omega) (by omega)) ⟨vi, ?_⟩
            rw [er']
            exact xx_fits (by omega) (by omega) hF.1 (br_f hf (xx_bindRow hcN hP hT hF (by omega) er hq hs ht hf1 (fun pk' rb' pp' pt' hb => gX _ _ _ _ _ _ _ _ _ _ _ _ _ _ _ _ _ _ _ _ _ _ _ (by omega) hb (br_t rfl (nm_r (nI_1 i) (kX post m _ _ _ _ (by omega) h))))))
          · obtain ⟨m, rfl⟩ : ∃ m, n = m + 1 := ⟨n - 1, by omega⟩
            refine br_f (nI_ge (by omega) (by omega)) ⟨vi, ?_⟩
            rw [er']
            refine yy_matchPat hcN hP hT hF hq ht (fun pa' ok' hM => br_f hf ⟨vi, ?_⟩)
            rw [er']
            exact yy_collect hcN hP hT hF hq ht hs hM hf1 (fun rY' st' hb => ⟨vi, br_f (by rw [ci]; exact g0) (br_f (nI_ge (b := 8) (by omega) (by decide)) ⟨vp_in_nI (by omega) (by decide), nm_r (bm_uq (by omega)) (nm_r (nI_1 gN) (gY _ _ _ _ _ _ _ _ _ _ _ _ _ _ _ _ _ _ _ _ _ _ hb (fun hg' => br_t rfl (nm_r (nI_1 i) (kY post m _ _ _ _ _ (by omega) h)))))⟩)⟩)
        · refine ⟨nI i, nI i, bm_cp (fun x => bm_D kd pl pf ps t0 t1 fi x 64 q t) 8 sb, upd gl gN (nI i), gN + 1, by omega, fun post n pk rb pp pt hn h => ?_, fun post n hg pa ok rY st hn h => ?_⟩
          · obtain ⟨m, rfl⟩ : ∃ m, n = m + 1 := ⟨n - 1, by omega⟩
            refine br_f (nI_ge (by omega) (by omega)) ⟨vi, ?_⟩
            rw [er']
            refine xx_fits (by omega) (by omega) hF.1 (br_f hf (xx_bindRow hcN hP hT hF (by omega) er hq hs ht hf1 (fun pk' rb' pp' pt' hb => gX _ _ _ _ _ _ _ _ _ _ _ _ _ _ _ _ _ _ _ _ _ _ _ (by omega) hb (br_f bm_n10 (xx_sel ?_)))))
            rw [bm_cp_e hb]
            exact h _ _ _ _
          · obtain ⟨m, rfl⟩ : ∃ m, n = m + 1 := ⟨n - 1, by omega⟩
            refine br_f (nI_ge (by omega) (by omega)) ⟨vi, ?_⟩
            rw [er']
            refine yy_matchPat hcN hP hT hF hq ht (fun pa' ok' hM => br_f hf ⟨vi, ?_⟩)
            rw [er']
            refine yy_collect hcN hP hT hF hq ht hs hM hf1 (fun rY' st' hb => ⟨vi, br_f (by rw [ci]; exact g0) (br_f (nI_ge (b := 8) (by omega) (by decide)) ⟨vp_in_nI (by omega) (by decide), nm_r (bm_uq (by omega)) (nm_r (nI_1 gN) (gY _ _ _ _ _ _ _ _ _ _ _ _ _ _ _ _ _ _ _ _ _ _ hb (fun hg' => br_f bm_n10 (yy_sel ?_))))⟩)⟩)
            rw [bm_cp_e hb]
            exact h _ _ _ _ _
end
section
variable {T P R cN tN pN rN gN : Nat} {cm sr pk : Int32} {ar tc t0 t1 hX kd pl pf ps us fi rp rg r1 r2 sb gl rb pp pt hg pA pB pC pa ok rY st : Nat → Int32} {H sz : Nat → Nat}
/-- a match on both sides -/
theorem bm_match {k : Nat} (J : bm_J T P R cN tN pN rN gN ar tc t0 t1 hX kd pl pf ps us fi rp rg r1 r2 pA pB pC H sz) (v1 : Int32) :
    ∃ (res : Int32), (∀ (post : Int32 → SX → Prop) (postY : Int32 → SX → Int32 → SY → Prop), (∀ u' v', i_Rel k u' v' → postY res u' res v') → (∀ r u', wpY_match (postY r u') (nI T, nI P, nI R, nI cN, nI tN, nI pN, nI rN, cm, sr, nI gN, ar, tc, t0, t1, hg, kd, pA, pB, pC, us, rp, rg, r1, r2, sb, gl, pa, ok, rY, st) v1 → post r u') → wpX_runMatch post (nI T, nI P, nI R, nI cN, nI tN, nI pN, nI rN, cm, sr, nI gN, pk, ar, tc, t0, t1, hX, kd, pl, pf, ps, us, fi, rp, rg, r1, r2, sb, gl, rb, pp, pt) v1) := by
  obtain ⟨hJ, hAr, hIP, hIT, hIF, hIR⟩ := id J
  have h8 : cN ≤ 8 := hJ.2.2.2.2.2.2.2
  have t6 := hIT.1
  by_cases hc : cm = 0
  · exact ⟨-2, fun post postY hY hp => br_t hc (hp _ _ (br_t hc (hY _ _ (bm_mk J))))⟩
  rcases pk_ix v1 (n := tN) (by omega) with z | z | ⟨t, ht, rfl⟩
  · exact ⟨-2, fun post postY hY hp => br_f hc (xx_term_f (Or.inl z) (br_t rfl (hp _ _ (br_f hc (br_t z (hY _ _ (bm_mk J)))))))⟩
  · exact ⟨-2, fun post postY hY hp => br_f hc (xx_term_f (Or.inr z) (br_t rfl (hp _ _ (br_f hc (br_f (bm_nlt0 (by omega) z) (br_f (Int32.not_lt.mpr z) (hY _ _ (bm_mk J))))))))⟩
  · obtain ⟨res, sr', sb', gl', gN', g8, kX, kY⟩ := bm_run (fT := nI T) (fP := nI P) (fR := nI R) (fC := nI cN) (cm := cm) (sr := -1) (sb := bm_clr (-1) 8 sb) h8 hIP hIT hIF hIR ht rN 0 0 gl (by omega) (by omega)
    refine ⟨res, fun post postY hY hp => br_f hc (xx_term_t ht t6 (br_f bm_n10 (xx_clear ⟨rN + 1, kX _ _ _ _ _ _ (by omega) (fun pk' rb' pp' pt' => hp _ _ (br_f hc (br_f (bm_nge (by omega)) (br_t (nI_lt ht (by omega)) (yy_clear ⟨rN + 1, kY _ _ _ _ _ _ _ (by omega) (fun hg' pa' ok' rY' st' => hY _ _ (bm_mk (H := H) (sz := sz) ?_))⟩)))))⟩)))⟩
    exact ⟨⟨hJ.1, hJ.2.1, hJ.2.2.1, hJ.2.2.2.1, hJ.2.2.2.2.1, hJ.2.2.2.2.2.1, g8, h8⟩, hAr, hIP, hIT, hIF, hIR⟩
end
