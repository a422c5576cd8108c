/-! the component's small methods, each with a general post -/
section
variable {fT fP fR fC fN fQ fW cm sr fG pk : Int32} {ar tc t0 t1 hX kd pl pf ps us fi rp rg r1 r2 sb gl rb pp pt : Nat → Int32} {H sz : Nat → Nat} {cN pN tN rN : Nat} {pA pB pC : Nat → Int32}
theorem xx_cons_t {post : Int32 → Prop} {c : Nat} (hc : c < cN) (h8 : cN ≤ 8) (h : post 1) : wpX_isConstructor post (fT, fP, fR, nI cN, fN, fQ, fW, cm, sr, fG, pk, ar, tc, t0, t1, hX, kd, pl, pf, ps, us, fi, rp, rg, r1, r2, sb, gl, rb, pp, pt) (nI c) :=
  br_f (bm_nge (by omega)) (br_f (nI_ge hc (by omega)) h)
theorem xx_cons_f {post : Int32 → Prop} {c : Int32} (hc : c < 0 ∨ nI cN ≤ c) (h : post 0) : wpX_isConstructor post (fT, fP, fR, nI cN, fN, fQ, fW, cm, sr, fG, pk, ar, tc, t0, t1, hX, kd, pl, pf, ps, us, fi, rp, rg, r1, r2, sb, gl, rb, pp, pt) c :=
  br_c (fun _ => h) (fun z => br_t (hc.resolve_left z) h)
theorem xx_term_t {post : Int32 → Prop} {c : Nat} (hc : c < tN) (h8 : tN ≤ 64) (h : post 1) : wpX_isTerm post (fT, fP, fR, fC, nI tN, fQ, fW, cm, sr, fG, pk, ar, tc, t0, t1, hX, kd, pl, pf, ps, us, fi, rp, rg, r1, r2, sb, gl, rb, pp, pt) (nI c) :=
  br_f (bm_nge (by omega)) (br_f (nI_ge hc (by omega)) h)
theorem xx_term_f {post : Int32 → Prop} {c : Int32} (hc : c < 0 ∨ nI tN ≤ c) (h : post 0) : wpX_isTerm post (fT, fP, fR, fC, nI tN, fQ, fW, cm, sr, fG, pk, ar, tc, t0, t1, hX, kd, pl, pf, ps, us, fi, rp, rg, r1, r2, sb, gl, rb, pp, pt) c :=
  br_c (fun _ => h) (fun z => br_t (hc.resolve_left z) h)
theorem xx_var_t {post : Int32 → Prop} {c : Nat} (hc : c < 8) (h : post 1) : wpX_isVariable post (fT, fP, fR, fC, fN, fQ, fW, cm, sr, fG, pk, ar, tc, t0, t1, hX, kd, pl, pf, ps, us, fi, rp, rg, r1, r2, sb, gl, rb, pp, pt) (nI c) :=
  br_f (bm_nge (by omega)) (br_f (nI_ge (b := 8) hc (by decide)) h)
theorem xx_var_f {post : Int32 → Prop} {c : Int32} (hc : c < 0 ∨ nI 8 ≤ c) (h : post 0) : wpX_isVariable post (fT, fP, fR, fC, fN, fQ, fW, cm, sr, fG, pk, ar, tc, t0, t1, hX, kd, pl, pf, ps, us, fi, rp, rg, r1, r2, sb, gl, rb, pp, pt) c :=
  br_c (fun _ => h) (fun z => br_t (hc.resolve_left z) h)
/-- not a free pattern -/
def bm_NFree (us : Nat → Int32) (pN : Nat) (b : Int32) : Prop := b < 0 ∨ nI pN ≤ b ∨ ∃ q, q < pN ∧ b = nI q ∧ ¬ us q = 0
def bm_Free (us : Nat → Int32) (pN : Nat) (b : Int32) : Prop := ∃ q, q < pN ∧ b = nI q ∧ us q = 0
theorem bm_free (us : Nat → Int32) {pN : Nat} (h : pN ≤ 64) (b : Int32) : bm_Free us pN b ∨ bm_NFree us pN b := by
  rcases pk_ix b (n := pN) (by omega) with h1 | h1 | ⟨q, hq, e⟩
  · exact Or.inr (Or.inl h1)
  · exact Or.inr (Or.inr (Or.inl h1))
  · by_cases z : us q = 0
    · exact Or.inl ⟨q, hq, e, z⟩
    · exact Or.inr (Or.inr (Or.inr ⟨q, hq, e, z⟩))
theorem xx_free_t {post : Int32 → Prop} {q : Nat} (hq : q < pN) (h6 : pN ≤ 64) (h0 : us q = 0) (h : post 1) : wpX_isFreePattern post (fT, fP, fR, fC, fN, nI pN, fW, cm, sr, fG, pk, ar, tc, t0, t1, hX, kd, pl, pf, ps, us, fi, rp, rg, r1, r2, sb, gl, rb, pp, pt) (nI q) :=
  br_f (bm_nge (by omega)) (br_f (nI_ge hq (by omega)) ⟨vp_in_nI (by omega) (by omega), br_t (by rw [nI_clamp (by omega)]; exact h0) h⟩)
theorem xx_free_f {post : Int32 → Prop} {b : Int32} (h6 : pN ≤ 64) (hb : bm_NFree us pN b) (h : post 0) : wpX_isFreePattern post (fT, fP, fR, fC, fN, nI pN, fW, cm, sr, fG, pk, ar, tc, t0, t1, hX, kd, pl, pf, ps, us, fi, rp, rg, r1, r2, sb, gl, rb, pp, pt) b := by
  rcases hb with z | z | ⟨q, hq, rfl, h0⟩
  · exact br_t z h
  · exact br_c (fun _ => h) (fun _ => br_t z h)
  · exact br_f (bm_nge (by omega)) (br_f (nI_ge hq (by omega)) ⟨vp_in_nI (by omega) (by omega), br_f (by rw [nI_clamp (by omega)]; exact h0) h⟩)
theorem xx_fits {post : Int32 → Prop} {p t : Nat} (hp : p < 64) (ht : t < 64) (h01 : ∀ i, fi i = 0 ∨ fi i = 1) (h : post (fi (p * 64 + t))) : wpX_patternFits post (fT, fP, fR, fC, fN, fQ, fW, cm, sr, fG, pk, ar, tc, t0, t1, hX, kd, pl, pf, ps, us, fi, rp, rg, r1, r2, sb, gl, rb, pp, pt) (nI p) (nI t) := by
  have e : (nI p * 64 + nI t).toNatClampNeg = p * 64 + t := by rw [bm_m64, nI_clamp (by omega)]
  refine ⟨by rw [bm_m64]; exact vp_in_nI (by omega) (by omega), ?_, ?_⟩
  · rw [e]
    exact bm_01b (h01 _)
  · rw [e]
    exact h
/-- the second half of a constructor's node -/
theorem xx_89n {post : Int32 → Prop} {x2 : Int32} (h : post 1) : wX_nodeFits_89 post x2 (-1) fT fP fR fC fN fQ fW cm sr fG pk ar tc t0 t1 hX kd pl pf ps us fi rp rg r1 r2 sb gl rb pp pt := br_t rfl h
theorem xx_89 {post : Int32 → Prop} {t r k : Nat} (hr : r < 64) (ht : t < 64) (hk : k < 64) (ek : t1 t = nI k) (h01 : ∀ i, fi i = 0 ∨ fi i = 1) (h0 : fi (r * 64 + k) = 0 → post 0) (h1 : fi (r * 64 + k) = 1 → post 1) : wX_nodeFits_89 post (nI t) (nI r) fT fP fR fC fN fQ fW cm sr fG pk ar tc t0 t1 hX kd pl pf ps us fi rp rg r1 r2 sb gl rb pp pt := by
  refine br_f (bm_ne1 (by omega)) ⟨vp_in_nI (by omega) (by omega), ?_⟩
  rw [nI_clamp (by omega), ek]
  refine xx_fits hr hk h01 (br_c h0 (fun z => h1 (bm_01t (h01 _) z)))
theorem xx_nodeFits {post : Int32 → Prop} {p t : Nat} (hcN : cN ≤ 8) (hp : p < 64) (ht : t < 64) (hN : bm_Nd ar kd pl pf ps pA pB pC cN p) (hT : bm_Tm ar tc t0 t1 hX H cN t) (h01 : ∀ i, fi i = 0 ∨ fi i = 1)
    (h : ∀ v, v = 0 ∨ v = 1 → bm_NF kd pl pf ps tc t0 t1 fi p t v → post v) : wpX_nodeFits post (fT, fP, fR, fC, fN, fQ, fW, cm, sr, fG, pk, ar, tc, t0, t1, hX, kd, pl, pf, ps, us, fi, rp, rg, r1, r2, sb, gl, rb, pp, pt) (nI p) (nI t) := by
  have cp : (nI p).toNatClampNeg = p := nI_clamp (by omega)
  have ct : (nI t).toNatClampNeg = t := nI_clamp (by omega)
  have vi : vp_in (nI p) 64 := vp_in_nI hp (by omega)
  have vt : vp_in (nI t) 64 := vp_in_nI ht (by omega)
  have nf0 : kd p = 2 → ¬ pl p = tc t → bm_NF kd pl pf ps tc t0 t1 fi p t 0 := by
    intro ek z
    refine ⟨fun w => ?_, fun w => ?_, fun _ => ⟨fun w => absurd w bm_n01, fun w => absurd w.1 z⟩, fun w => ?_⟩ <;> (rw [ek] at w; exact absurd w (by decide))
  have nf2 : ∀ v, kd p = 2 → (v = 1 ↔ pl p = tc t ∧ (pf p = -1 ∨ fi ((pf p).toNatClampNeg * 64 + (t0 t).toNatClampNeg) = 1) ∧ (ps p = -1 ∨ fi ((ps p).toNatClampNeg * 64 + (t1 t).toNatClampNeg) = 1)) → bm_NF kd pl pf ps tc t0 t1 fi p t v := by
    intro v ek z
    refine ⟨fun w => ?_, fun w => ?_, fun _ => z, fun w => ?_⟩ <;> (rw [ek] at w; exact absurd w (by decide))
  have nf3 : ∀ v, kd p = 3 → (v = 1 ↔ fi ((pf p).toNatClampNeg * 64 + t) = 1 ∨ fi ((ps p).toNatClampNeg * 64 + t) = 1) → bm_NF kd pl pf ps tc t0 t1 fi p t v := by
    intro v ek z
    refine ⟨fun w => ?_, fun w => ?_, fun w => ?_, fun _ => z⟩ <;> (rw [ek] at w; exact absurd w (by decide))
  rcases hN with ⟨ek, e1, e2⟩ | ⟨x, q, ek, _, hq, _, e1, e2, _⟩ | ⟨c, ek, _, _, el, e1, e2, _⟩ | ⟨c, q, ek, hc, ea, hq, el, e1, e2, _⟩ | ⟨c, q, r, ek, hc, ea, hq, hr, _, el, e1, e2, _⟩ | ⟨q, r, ek, hq, hr, _, e1, e2, _⟩
  · refine ⟨vi, nm_r ((congrArg pf cp).trans e1) ⟨vi, nm_r ((congrArg ps cp).trans e2) ⟨vi, nm_r ((congrArg kd cp).trans ek) (br_t (by decide) (h 1 (Or.inr rfl) ?_))⟩⟩⟩
    refine ⟨fun _ => rfl, fun w => ?_, fun w => ?_, fun w => ?_⟩ <;> (rw [ek] at w; exact absurd w (by decide))
  · refine ⟨vi, nm_r ((congrArg pf cp).trans e1) ⟨vi, nm_r ((congrArg ps cp).trans e2) ⟨vi, nm_r ((congrArg kd cp).trans ek) (br_f (by decide) (br_f (by decide) (br_t rfl (xx_fits (by omega) ht h01 ⟨bm_01b (h01 _), h _ (h01 _) ?_⟩))))⟩⟩⟩
    refine ⟨fun w => ?_, fun _ => ?_, fun w => ?_, fun w => ?_⟩
    · rw [ek] at w; exact absurd w (by decide)
    · rw [e1, nI_clamp (by omega)]
    · rw [ek] at w; exact absurd w (by decide)
    · rw [ek] at w; exact absurd w (by decide)
  · refine ⟨vi, nm_r ((congrArg pf cp).trans e1) ⟨vi, nm_r ((congrArg ps cp).trans e2) ⟨vi, nm_r ((congrArg kd cp).trans ek) (br_f (by decide) (br_f (by decide) (br_f (by decide) (br_t rfl ⟨vi, vt, br_c (fun z => br_t rfl (xx_89n (h 1 (Or.inr rfl) ?_))) (fun z => h 0 (Or.inl rfl) ?_)⟩))))⟩⟩⟩
    · rw [cp, ct] at z
      exact nf2 1 ek ⟨fun _ => ⟨z, Or.inl e1, Or.inl e2⟩, fun _ => rfl⟩
    · rw [cp, ct] at z
      exact nf0 ek z
  · refine ⟨vi, nm_r ((congrArg pf cp).trans e1) ⟨vi, nm_r ((congrArg ps cp).trans e2) ⟨vi, nm_r ((congrArg kd cp).trans ek) (br_f (by decide) (br_f (by decide) (br_f (by decide) (br_t rfl ⟨vi, vt, br_c (fun z => br_f (bm_ne1 (by omega)) ⟨vt, ?_⟩) (fun z => h 0 (Or.inl rfl) ?_)⟩))))⟩⟩⟩
    · rw [cp, ct] at z
      obtain ⟨d, hd, td, _, _, _, hk⟩ := hT
      have := bm_ar hc hd hcN (el.symm.trans (z.trans td))
      subst this
      obtain ⟨j, hj, ej⟩ : ∃ j, j < t ∧ t0 t = nI j := by
        rcases hk with ⟨w, _⟩ | ⟨j, _, _, hj, ej, _⟩ | ⟨j, k, w, _⟩
        · rw [ea] at w; exact absurd w (by decide)
        · exact ⟨j, hj, ej⟩
        · rw [ea] at w; exact absurd w (by decide)
      have g : ∀ v, (v = 1 ↔ fi (q * 64 + j) = 1) → bm_NF kd pl pf ps tc t0 t1 fi p t v := by
        intro v w
        refine nf2 v ek ?_
        rw [e1, ej, nI_clamp (by omega), nI_clamp (by omega), w]
        exact ⟨fun y => ⟨z, Or.inr y, Or.inl e2⟩, fun y => y.2.1.resolve_left (bm_ne1 (by omega))⟩
      rw [ct, ej]
      refine xx_fits (by omega) (by omega) h01 (br_c (fun w => h 0 (Or.inl rfl) (g 0 ?_)) (fun w => xx_89n (h 1 (Or.inr rfl) (g 1 ?_))))
      · rw [w]
      · rw [bm_01t (h01 _) w]
    · rw [cp, ct] at z
      exact nf0 ek z
  · refine ⟨vi, nm_r ((congrArg pf cp).trans e1) ⟨vi, nm_r ((congrArg ps cp).trans e2) ⟨vi, nm_r ((congrArg kd cp).trans ek) (br_f (by decide) (br_f (by decide) (br_f (by decide) (br_t rfl ⟨vi, vt, br_c (fun z => br_f (bm_ne1 (by omega)) ⟨vt, ?_⟩) (fun z => h 0 (Or.inl rfl) ?_)⟩))))⟩⟩⟩
    · rw [cp, ct] at z
      obtain ⟨d, hd, td, _, _, _, hk⟩ := hT
      have := bm_ar hc hd hcN (el.symm.trans (z.trans td))
      subst this
      obtain ⟨j, k, hj, hk', ej, ek'⟩ : ∃ j k, j < t ∧ k < t ∧ t0 t = nI j ∧ t1 t = nI k := by
        rcases hk with ⟨w, _⟩ | ⟨j, w, _⟩ | ⟨j, k, _, hj, hk, ej, ek, _⟩
        · rw [ea] at w; exact absurd w (by decide)
        · rw [ea] at w; exact absurd w (by decide)
        · exact ⟨j, k, hj, hk, ej, ek⟩
      have g : ∀ v, (v = 1 ↔ fi (q * 64 + j) = 1 ∧ fi (r * 64 + k) = 1) → bm_NF kd pl pf ps tc t0 t1 fi p t v := by
        intro v w
        refine nf2 v ek ?_
        rw [e1, e2, ej, ek', nI_clamp (by omega), nI_clamp (by omega), nI_clamp (by omega), nI_clamp (by omega), w]
        exact ⟨fun y => ⟨z, Or.inr y.1, Or.inr y.2⟩, fun y => ⟨y.2.1.resolve_left (bm_ne1 (by omega)), y.2.2.resolve_left (bm_ne1 (by omega))⟩⟩
      rw [ct, ej]
      refine xx_fits (by omega) (by omega) h01 (br_c (fun w => h 0 (Or.inl rfl) (g 0 ⟨fun y => absurd y bm_n01, fun y => ?_⟩)) (fun w => xx_89 (by omega) ht (by omega) ek' h01 (fun y => h 0 (Or.inl rfl) (g 0 ⟨fun x => absurd x bm_n01, fun x => ?_⟩)) (fun y => h 1 (Or.inr rfl) (g 1 ⟨fun _ => ⟨bm_01t (h01 _) w, y⟩, fun _ => rfl⟩))))
      · have := y.1
        rw [w] at this
        exact this
      · have := x.2
        rw [y] at this
        exact this
    · rw [cp, ct] at z
      exact nf0 ek z
  · have g : ∀ v, (v = 1 ↔ fi (q * 64 + t) = 1 ∨ fi (r * 64 + t) = 1) → bm_NF kd pl pf ps tc t0 t1 fi p t v := by
      intro v w
      refine nf3 v ek ?_
      rw [e1, e2, nI_clamp (by omega), nI_clamp (by omega)]
      exact w
    refine ⟨vi, nm_r ((congrArg pf cp).trans e1) ⟨vi, nm_r ((congrArg ps cp).trans e2) ⟨vi, nm_r ((congrArg kd cp).trans ek) (br_f (by decide) (br_f (by decide) (br_f (by decide) (br_f (by decide) (br_t rfl (xx_fits (by omega) ht h01 (br_c (fun w => xx_fits (by omega) ht h01 (br_c (fun y => h 0 (Or.inl rfl) (g 0 ⟨fun x => absurd x bm_n01, fun x => ?_⟩)) (fun y => h 1 (Or.inr rfl) (g 1 ⟨fun _ => Or.inr (bm_01t (h01 _) y), fun _ => rfl⟩)))) (fun w => h 1 (Or.inr rfl) (g 1 ⟨fun _ => Or.inl (bm_01t (h01 _) w), fun _ => rfl⟩)))))))))⟩⟩⟩
    rcases x with x | x
    · rw [w] at x
      exact x
    · rw [y] at x
      exact x
theorem xx_record {post : SX → Prop} {p t : Nat} (hcN : cN ≤ 8) (hp : p < 64) (ht : t < 64) (hN : bm_Nd ar kd pl pf ps pA pB pC cN p) (hT : bm_Tm ar tc t0 t1 hX H cN t) (h01 : ∀ i, fi i = 0 ∨ fi i = 1)
    (h : ∀ v, v = 0 ∨ v = 1 → bm_NF kd pl pf ps tc t0 t1 fi p t v → post (fT, fP, fR, fC, fN, fQ, fW, cm, sr, fG, pk, ar, tc, t0, t1, hX, kd, pl, pf, ps, us, upd fi (p * 64 + t) v, rp, rg, r1, r2, sb, gl, rb, pp, pt)) : wpX_recordFit post (fT, fP, fR, fC, fN, fQ, fW, cm, sr, fG, pk, ar, tc, t0, t1, hX, kd, pl, pf, ps, us, fi, rp, rg, r1, r2, sb, gl, rb, pp, pt) (nI p) (nI t) := by
  unfold wpX_recordFit
  dsimp only
  refine xx_nodeFits hcN hp ht hN hT h01 (fun v hv hn => ⟨?_, nm_r ?_ (h v hv hn)⟩)
  · rw [bm_m64]
    exact vp_in_nI (by omega) (by omega)
  · rw [bm_m64, nI_clamp (by omega), bm_01n hv]
end
