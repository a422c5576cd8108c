/-! collectBindings of the reference -/
theorem bm_RY_c {d : Nat → Nat → Nat → Int32} {pA : Nat → Int32} {x : Nat} {e : Nat × Nat × Nat} {l : List (Nat × Nat × Nat)} : bm_RY d pA x (e :: l) = bm_mg (bm_RY d pA x l) (bm_dY d pA x e) := rfl
theorem bm_dY_0 {d : Nat → Nat → Nat → Int32} {pA : Nat → Int32} {x q u : Nat} : bm_dY d pA x (0, q, u) = d x q u := if_pos rfl
theorem bm_dY_1 {d : Nat → Nat → Nat → Int32} {pA : Nat → Int32} {x q u : Nat} : bm_dY d pA x (1, q, u) = if pA q = nI x then nI u else -1 := if_neg (by decide : ¬ (1 : Nat) = 0)
theorem bm_RY_1 {d : Nat → Nat → Nat → Int32} {pA : Nat → Int32} {x q u : Nat} : bm_RY d pA x [(0, q, u)] = d x q u := by
  rw [bm_RY_c, bm_dY_0]
  exact bm_mg_l _
section
variable {fT fP fR fC fN fQ fW cm sr fG pk : Int32} {ar tc t0 t1 hX kd pl pf ps us fi rp rg r1 r2 sb gl rb pp pt hg pA pB pC pa ok rY st : Nat → Int32} {H sz : Nat → Nat} {cN pN tN rN root t : Nat}
theorem yy_37 {post : SY → Prop} {B : Nat → Int32} {d : Nat → Nat → Nat → Int32} (ed : ∀ x p t, d x p t = bm_D kd pl pf ps t0 t1 fi x 64 p t) (hcN : cN ≤ 8) (hP : bm_IP ar kd pl pf ps pA pB pC us sz cN pN) (hT : bm_IT ar tc t0 t1 hX H cN tN) (hF : bm_IF kd pl pf ps tc t0 t1 fi pN tN) (hr : root < pN) (hM : bm_MP kd pl pf ps tc t0 t1 fi pa ok tN root t)
    (hpost : ∀ rY' st', (∀ x, x < 8 → rY' x = B x) → post (fT, fP, fR, fC, fN, fQ, fW, cm, sr, fG, ar, tc, t0, t1, hg, kd, pA, pB, pC, us, rp, rg, r1, r2, sb, gl, pa, ok, rY', st')) :
    ∀ (n i k : Nat) (l : List (Nat × Nat × Nat)) (rY st : Nat → Int32), 129 - i < n → bm_wY sz l + i ≤ 128 → bm_SY st l k → bm_OY fi pA pa pN tN root l →
      (∀ x, x < 8 → bm_mg (bm_RY d pA x l) (rY x) = B x) → wY_collectBindings_37 post fT fP fR fC fN fQ fW cm sr fG n (nI k) (nI i) ar tc t0 t1 hg kd pA pB pC us rp rg r1 r2 sb gl pa ok rY st := by
  have h6 := hP.1
  have t6 := hT.1
  have s1 : ∀ p, p < pN → 1 ≤ sz p := fun p hp => by
    have := hP.2.2.1 p hp
    unfold bm_Sz at this
    omega
  obtain ⟨_, hI1, hI2⟩ := hM
  intro n
  induction n with
  | zero => intro i k l rY st h; omega
  | succ n ih =>
    intro i k l rY st hn hw hS hO hB
    cases l with
    | nil =>
      have hk : k = 0 := hS
      subst hk
      have fin : post (fT, fP, fR, fC, fN, fQ, fW, cm, sr, fG, ar, tc, t0, t1, hg, kd, pA, pB, pC, us, rp, rg, r1, r2, sb, gl, pa, ok, rY, st) := hpost _ _ (fun x hx => by
        have := hB x hx
        unfold bm_RY at this
        rw [bm_mg_l] at this
        exact this)
      exact br_c (fun _ => fin) (fun _ => br_t (by decide) fin)
    | cons e l =>
      obtain ⟨w, q, u⟩ := e
      obtain ⟨j, hj, es, hS'⟩ := hS
      obtain ⟨⟨hq, hu, hpa, hcase⟩, hO'⟩ := hO
      subst hj
      have hq' : q ≤ root := hq
      have hu' : u < tN := hu
      have hpa' : pa q = nI u := hpa
      have hw' : (if w = 0 then 2 * sz q else 1) + bm_wY sz l + i ≤ 128 := hw
      have sq := s1 q (by omega)
      have kw := bm_kY hr s1 l j hS' hO'
      have w1 : 1 ≤ (if w = 0 then 2 * sz q else 1) := by
        split <;> omega
      have vj : vp_in (nI j) 128 := vp_in_nI (by omega) (by decide)
      have vq : vp_in (nI q) 64 := vp_in_nI (by omega) (by decide)
      have cj : (nI j).toNatClampNeg = j := nI_clamp (by omega)
      have cq : (nI q).toNatClampNeg = q := nI_clamp (by omega)
      have es' : st (nI j).toNatClampNeg = nI (2 * q + w) := by rw [cj]; exact es
      have hB' : ∀ x, x < 8 → bm_mg (bm_mg (bm_RY d pA x l) (bm_dY d pA x (w, q, u))) (rY x) = B x := hB
      have hC := hI1 q (by omega) hq' u hu' hpa'
      refine br_f (nI_ge (b := 256) (by omega) (by decide)) (br_f (nI_nle (by omega) (by omega)) (nm_r (pk_m1 j) ⟨vj, nm_r es' ?_⟩))
      rcases hcase with ⟨w0, hf⟩ | ⟨w0, y, hy, eA⟩
      · have w0' : w = 0 := w0
        subst w0'
        have hf' : fi (q * 64 + u) = 1 := hf
        have hwq : 2 * sz q + bm_wY sz l + i ≤ 128 := hw'
        have hBq : ∀ x, x < 8 → bm_mg (bm_mg (bm_RY d pA x l) (d x q u)) (rY x) = B x := fun x hx => by
          have := hB' x hx
          rw [bm_dY_0] at this
          exact this
        refine nm_r (bm_sh1 (by omega)) (br_f (by rw [show nI (2 * q + 0) = nI (2 * q) from rfl, bm_an1 (by omega)]; decide) ⟨vq, ?_⟩)
        rcases bm_step hcN hP hT hF (by omega) hu' hf' with ⟨ek, ez, hD⟩ | ⟨y, a, ek, hy, ha, el, e1, e2, eA, eB, ez, hfa, hD⟩ | ⟨c, ek, hc, ea, e1, e2, eA, ez, hD⟩ | ⟨c, a, v, ek, hc, ea, ha, hv, el, etc, e1, e2, eA, eB, ev, ez, hfa, hD⟩ | ⟨c, a, b, v, z, ek, hc, ea, ha, hb, hv, hz, el, etc, e1, e2, eA, eB, eC, ev, ew, ez, hfa, hfb, hD⟩ | ⟨a, b, ek, ha, hb, e1, e2, eA, eB, ez, hor⟩
        · refine nm_r ((congrArg kd cq).trans ek) (br_f (by decide) (br_f (by decide) (br_f (by decide) (nm_r (nI_1 i) (ih (i + 1) j l rY st (by omega) (by omega) hS' hO' (fun x hx => ?_))))))
          have := hBq x hx
          rw [ed, hD x, bm_mg_r] at this
          exact this
        · have sa := s1 a (by omega)
          have har : a ≤ root := by omega
          have cB : pB (nI q).toNatClampNeg = nI a := by rw [cq, eB]
          have pca : pa a = nI u := by
            have := hC.1 ek
            rw [e1, nI_clamp (by omega)] at this
            exact this
          refine nm_r ((congrArg kd cq).trans ek) (br_t rfl (br_f (nI_ge (b := 127) (by omega) (by decide)) (nm_r (nI_1 j) ⟨vj, nm_r (e' := upd st j (nI (2 * q + 1))) ?_ (nm_r (nI_1 (j + 1)) ⟨vq, vp_in_nI (by omega) (by decide), nm_r (e' := upd (upd st j (nI (2 * q + 1))) (j + 1) (nI (2 * a + 0))) ?_ (nm_r (nI_1 i) (ih (i + 1) (j + 1 + 1) ((0, a, u) :: (1, q, u) :: l) rY _ (by omega) ?_ (bm_SY_push 0 a u (bm_SY_push 1 q u hS')) ⟨⟨har, hu', pca, Or.inl ⟨rfl, hfa⟩⟩, ⟨hq', hu', hpa', Or.inr ⟨rfl, y, hy, eA⟩⟩, hO'⟩ (fun x hx => ?_)))⟩)⟩)))
          · rw [cj, bm_x21]
          · rw [cB, bm_x2, nI_clamp (by omega)]
            rfl
          · show 2 * sz a + (1 + bm_wY sz l) + (i + 1) ≤ 128
            omega
          · have := hBq x hx
            rw [ed, hD x, ← ed, ← bm_mg_as, el, ← eA] at this
            rw [bm_RY_c, bm_RY_c, bm_dY_0, bm_dY_1]
            exact this
        · have cA : pA (nI q).toNatClampNeg = nI c := by rw [cq, eA]
          have vA : vp_in (pA (nI q).toNatClampNeg) 8 := by
            rw [cA]
            exact vp_in_nI (by omega) (by decide)
          have eq : ar (pA (nI q).toNatClampNeg).toNatClampNeg = 0 := by rw [cA, nI_clamp (by omega), ea]
          refine nm_r ((congrArg kd cq).trans ek) (br_f (by decide) (br_t rfl ⟨vq, vA, nm_r eq (br_f (by decide) (br_t (by decide) (nm_r (nI_1 i) (ih (i + 1) j l rY st (by omega) (by omega) hS' hO' (fun x hx => ?_)))))⟩))
          have := hBq x hx
          rw [ed, hD x, bm_mg_r] at this
          exact this
        · have sa := s1 a (by omega)
          have har : a ≤ root := by omega
          have cA : pA (nI q).toNatClampNeg = nI c := by rw [cq, eA]
          have vA : vp_in (pA (nI q).toNatClampNeg) 8 := by
            rw [cA]
            exact vp_in_nI (by omega) (by decide)
          have eq : ar (pA (nI q).toNatClampNeg).toNatClampNeg = 1 := by rw [cA, nI_clamp (by omega), ea]
          have cB : pB (nI q).toNatClampNeg = nI a := by rw [cq, eB]
          have hvt : v < tN := by omega
          have pca : pa a = nI v := by
            have := (hC.2.2 ek (el.trans etc.symm)).1.resolve_left (by rw [e1]; exact bm_ne1 (by omega))
            rw [e1, nI_clamp (by omega), ev] at this
            exact this
          refine nm_r ((congrArg kd cq).trans ek) (br_f (by decide) (br_t rfl ⟨vq, vA, nm_r eq (br_f (by decide) (br_f (by decide) (br_f (nI_ge (b := 128) (by omega) (by decide)) (nm_r (nI_1 j) ⟨vq, vj, nm_r (e' := upd st j (nI (2 * a + 0))) ?_ (nm_r (nI_1 i) (ih (i + 1) (j + 1) ((0, a, v) :: l) rY _ (by omega) ?_ (bm_SY_push 0 a v hS') ⟨⟨har, hvt, pca, Or.inl ⟨rfl, hfa⟩⟩, hO'⟩ (fun x hx => ?_)))⟩))))⟩))
          · rw [cB, bm_x2, cj]
            rfl
          · show 2 * sz a + bm_wY sz l + (i + 1) ≤ 128
            omega
          · have := hBq x hx
            rw [ed, hD x, ← ed] at this
            rw [bm_RY_c, bm_dY_0]
            exact this
        · have sa := s1 a (by omega)
          have har : a ≤ root := by omega
          have sb2 := s1 b (by omega)
          have hbr : b ≤ root := by omega
          have cA : pA (nI q).toNatClampNeg = nI c := by rw [cq, eA]
          have vA : vp_in (pA (nI q).toNatClampNeg) 8 := by
            rw [cA]
            exact vp_in_nI (by omega) (by decide)
          have eq : ar (pA (nI q).toNatClampNeg).toNatClampNeg = 2 := by rw [cA, nI_clamp (by omega), ea]
          have cB : pB (nI q).toNatClampNeg = nI a := by rw [cq, eB]
          have cC : pC (nI q).toNatClampNeg = nI b := by rw [cq, eC]
          have hvt : v < tN := by omega
          have pca : pa a = nI v := by
            have := (hC.2.2 ek (el.trans etc.symm)).1.resolve_left (by rw [e1]; exact bm_ne1 (by omega))
            rw [e1, nI_clamp (by omega), ev] at this
            exact this
          have hzt : z < tN := by omega
          have pcb : pa b = nI z := by
            have := (hC.2.2 ek (el.trans etc.symm)).2.resolve_left (by rw [e2]; exact bm_ne1 (by omega))
            rw [e2, nI_clamp (by omega), ew] at this
            exact this
          refine nm_r ((congrArg kd cq).trans ek) (br_f (by decide) (br_t rfl ⟨vq, vA, nm_r eq (br_t rfl (br_f (nI_ge (b := 128) (by omega) (by decide)) (nm_r (nI_1 j) ⟨vq, vj, nm_r (e' := upd st j (nI (2 * b + 0))) ?_ (br_f (by decide) (br_f (nI_ge (b := 128) (by omega) (by decide)) (nm_r (nI_1 (j + 1)) ⟨vq, vp_in_nI (by omega) (by decide), nm_r (e' := upd (upd st j (nI (2 * b + 0))) (j + 1) (nI (2 * a + 0))) ?_ (nm_r (nI_1 i) (ih (i + 1) (j + 1 + 1) ((0, a, v) :: (0, b, z) :: l) rY _ (by omega) ?_ (bm_SY_push 0 a v (bm_SY_push 0 b z hS')) ⟨⟨har, hvt, pca, Or.inl ⟨rfl, hfa⟩⟩, ⟨hbr, hzt, pcb, Or.inl ⟨rfl, hfb⟩⟩, hO'⟩ (fun x hx => ?_)))⟩)))⟩)))⟩))
          · rw [cC, bm_x2, cj]
            rfl
          · rw [cB, bm_x2, nI_clamp (by omega)]
            rfl
          · show 2 * sz a + (2 * sz b + bm_wY sz l) + (i + 1) ≤ 128
            omega
          · have := hBq x hx
            rw [ed, hD x, ← ed, ← ed, ← bm_mg_as] at this
            rw [bm_RY_c, bm_RY_c, bm_dY_0, bm_dY_0]
            exact this
        · have sa := s1 a (by omega)
          have har : a ≤ root := by omega
          have sb2 := s1 b (by omega)
          have hbr : b ≤ root := by omega
          have cA : pA (nI q).toNatClampNeg = nI a := by rw [cq, eA]
          have vA : vp_in (pA (nI q).toNatClampNeg) 64 := by
            rw [cA]
            exact vp_in_nI (by omega) (by decide)
          have cB : pB (nI q).toNatClampNeg = nI b := by rw [cq, eB]
          have pcs := hC.2.1 ek
          rw [e1, e2, nI_clamp (by omega), nI_clamp (by omega)] at pcs
          have cO : ok (pA (nI q).toNatClampNeg).toNatClampNeg = fi (a * 64 + u) := by
            rw [cA, nI_clamp (by omega)]
            exact hI2.2 a (by omega) u hu' pcs.1
          refine nm_r ((congrArg kd cq).trans ek) (br_f (by decide) (br_f (by decide) (br_t rfl (br_f (nI_ge (b := 128) (by omega) (by decide)) (nm_r (nI_1 j) ⟨vq, vA, br_c (fun z => ⟨vq, vj, nm_r (e' := upd st j (nI (2 * b + 0))) ?_ (nm_r (nI_1 i) (ih (i + 1) (j + 1) ((0, b, u) :: l) rY _ (by omega) ?_ (bm_SY_push 0 b u hS') ⟨⟨hbr, hu', pcs.2, Or.inl ⟨rfl, ?_⟩⟩, hO'⟩ (fun x hx => ?_)))⟩) (fun z => ⟨vq, vj, nm_r (e' := upd st j (nI (2 * a + 0))) ?_ (nm_r (nI_1 i) (ih (i + 1) (j + 1) ((0, a, u) :: l) rY _ (by omega) ?_ (bm_SY_push 0 a u hS') ⟨⟨har, hu', pcs.1, Or.inl ⟨rfl, ?_⟩⟩, hO'⟩ (fun x hx => ?_)))⟩)⟩)))))
          · rw [cB, bm_x2, cj]
            rfl
          · show 2 * sz b + bm_wY sz l + (i + 1) ≤ 128
            omega
          · rw [cO] at z
            rcases hor with ⟨z', _⟩ | ⟨_, hb', _⟩
            · rw [z] at z'
              exact absurd z' bm_n01
            · exact hb'
          · rw [cO] at z
            have := hBq x hx
            rcases hor with ⟨z', _⟩ | ⟨_, _, hD⟩
            · rw [z] at z'
              exact absurd z' bm_n01
            · rw [ed, hD x, ← ed] at this
              rw [bm_RY_c, bm_dY_0]
              exact this
          · rw [cA, bm_x2, cj]
            rfl
          · show 2 * sz a + bm_wY sz l + (i + 1) ≤ 128
            omega
          · rw [cO] at z
            exact bm_01t (hF.1 _) z
          · rw [cO] at z
            have := hBq x hx
            rcases hor with ⟨_, hD⟩ | ⟨z', _⟩
            · rw [ed, hD x, ← ed] at this
              rw [bm_RY_c, bm_dY_0]
              exact this
            · exact absurd z' z
      · have w0' : w = 1 := w0
        subst w0'
        have eA' : pA q = nI y := eA
        have hwq : 1 + bm_wY sz l + i ≤ 128 := hw'
        have cA : pA (nI q).toNatClampNeg = nI y := by rw [cq, eA']
        have vA : vp_in (pA (nI q).toNatClampNeg) 8 := by
          rw [cA]
          exact vp_in_nI hy (by decide)
        refine nm_r (bm_sh2 (by omega)) (br_t (bm_an2 (by omega)) ⟨vq, vq, vA, nm_r (e' := upd rY y (nI u)) ?_ (nm_r (nI_1 i) (ih (i + 1) j l _ st (by omega) (by omega) hS' hO' (fun x hx => ?_)))⟩)
        · rw [cA, cq, hpa', nI_clamp (by omega)]
        · have h9 := hB' x hx
          rw [bm_dY_1, eA'] at h9
          exact bm_bindY hy hx (by omega) h9
theorem yy_c2 {post : SY → Prop} {r : Int32} (h : ∃ n, wY_collectBindings_37 post fT fP fR fC fN fQ fW cm sr fG n (0 + 1) 0 ar tc t0 t1 hg kd pA pB pC us rp rg r1 r2 sb gl pa ok (bm_clr (-1) 8 rY) (upd st 0 (r * 2))) :
    ∀ (d i n : Nat), i + d = 8 → d < n → wY_collectBindings_2 post r fT fP fR fC fN fQ fW cm sr fG n (nI i) ar tc t0 t1 hg kd pA pB pC us rp rg r1 r2 sb gl pa ok (bm_clr (-1) i rY) st := by
  intro d
  induction d with
  | zero =>
    intro i n hi hn
    obtain ⟨m, rfl⟩ : ∃ m, n = m + 1 := ⟨n - 1, by omega⟩
    have e : i = 8 := by omega
    subst e
    exact br_t (nI_le (a := 8) (Nat.le_refl _) (by decide)) (nm_e (nm_e h))
  | succ d ih =>
    intro i n hi hn
    obtain ⟨m, rfl⟩ : ∃ m, n = m + 1 := ⟨n - 1, by omega⟩
    exact br_f (nI_ge (b := 8) (by omega) (by decide)) ⟨vp_in_nI (by omega) (by decide), nm_r ((bm_uq (by omega)).trans bm_clr_s) (nm_r (nI_1 i) (ih (i + 1) m (by omega) (by omega)))⟩
theorem yy_collect {post : SY → Prop} (hcN : cN ≤ 8) (hP : bm_IP ar kd pl pf ps pA pB pC us sz cN pN) (hT : bm_IT ar tc t0 t1 hX H cN tN) (hF : bm_IF kd pl pf ps tc t0 t1 fi pN tN) (hr : root < pN) (ht : t < tN) (hs : sz root ≤ 64) (hM : bm_MP kd pl pf ps tc t0 t1 fi pa ok tN root t) (hf : fi (root * 64 + t) = 1)
    (hpost : ∀ rY' st', (∀ x, x < 8 → rY' x = bm_D kd pl pf ps t0 t1 fi x 64 root t) → post (fT, fP, fR, fC, fN, fQ, fW, cm, sr, fG, ar, tc, t0, t1, hg, kd, pA, pB, pC, us, rp, rg, r1, r2, sb, gl, pa, ok, rY', st')) : wpY_collectBindings post (fT, fP, fR, fC, fN, fQ, fW, cm, sr, fG, ar, tc, t0, t1, hg, kd, pA, pB, pC, us, rp, rg, r1, r2, sb, gl, pa, ok, rY, st) (nI root) := by
  have h6 := hP.1
  have L : ∃ n, wY_collectBindings_37 post fT fP fR fC fN fQ fW cm sr fG n (0 + 1) 0 ar tc t0 t1 hg kd pA pB pC us rp rg r1 r2 sb gl pa ok (bm_clr (-1) 8 rY) (upd st 0 (nI root * 2)) := by
    refine ⟨130, ?_⟩
    rw [bm_x2]
    refine yy_37 (d := fun x p t => bm_D kd pl pf ps t0 t1 fi x 64 p t) (fun _ _ _ => rfl) (t := t) hcN hP hT hF hr hM hpost 130 0 1 [(0, root, t)] _ _ (by decide) ?_ (bm_SY_push (l := []) (k := 0) 0 root t rfl) ⟨⟨Nat.le_refl _, ht, hM.1, Or.inl ⟨rfl, hf⟩⟩, trivial⟩ (fun x hx => ?_)
    · show 2 * sz root + 0 + 0 ≤ 128
      omega
    · rw [bm_clr_l hx, bm_mg_r, bm_RY_1]
  have K := yy_c2 (r := nI root) L 8 0 9 rfl (by decide)
  rw [bm_clr0] at K
  exact ⟨9, K⟩
end
