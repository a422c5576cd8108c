/-! the table of fits: stores; and the bindings of a row -/
theorem bm_neg1 : (-1 : Int32).toNatClampNeg = 0 := by decide
theorem bm_kb {x : Int32} {p : Nat} (hp : p < 2 ^ 31) (h : x = -1 ∨ ∃ q, q < p ∧ x = nI q) : x.toNatClampNeg ≤ p := by
  rcases h with rfl | ⟨q, hq, rfl⟩
  · rw [bm_neg1]
    omega
  · rw [nI_clamp (by omega)]
    omega
theorem bm_Tm_k {ar tc t0 t1 hX : Nat → Int32} {H : Nat → Nat} {cN i : Nat} (h : bm_Tm ar tc t0 t1 hX H cN i) : (t0 i = -1 ∨ ∃ q, q < i ∧ t0 i = nI q) ∧ (t1 i = -1 ∨ ∃ q, q < i ∧ t1 i = nI q) := by
  obtain ⟨c, _, _, _, _, _, ⟨_, e1, e2, _⟩ | ⟨j, _, e2, hj, e1, _⟩ | ⟨j, k, _, hj, hk, e1, e2, _⟩⟩ := h
  · exact ⟨Or.inl e1, Or.inl e2⟩
  · exact ⟨Or.inr ⟨j, hj, e1⟩, Or.inl e2⟩
  · exact ⟨Or.inr ⟨j, hj, e1⟩, Or.inr ⟨k, hk, e2⟩⟩
theorem bm_Fe_upd {ar kd pl pf ps pA pB pC tc t0 t1 hX fi : Nat → Int32} {H : Nat → Nat} {cN p t P T : Nat} {v : Int32} (hN : bm_Nd ar kd pl pf ps pA pB pC cN p) (hT : bm_Tm ar tc t0 t1 hX H cN t) (hp : p < 64) (ht : t < 64) (hT6 : T < 64)
    (h : bm_Fe kd pl pf ps tc t0 t1 fi p t) (hne : ∀ q u, q ≤ p → u ≤ t → ¬ (q = P ∧ u = T)) : bm_Fe kd pl pf ps tc t0 t1 (upd fi (P * 64 + T) v) p t := by
  have E : ∀ a b, a ≤ p → b ≤ t → upd fi (P * 64 + T) v (a * 64 + b) = fi (a * 64 + b) := fun a b ha hb => pk_un (fun e => hne a b ha hb (bm_cell (by omega) hT6 e))
  have k1 := bm_kb (by omega) (bm_Nd_k hN).1
  have k2 := bm_kb (by omega) (bm_Nd_k hN).2
  have k3 := bm_kb (by omega) (bm_Tm_k hT).1
  have k4 := bm_kb (by omega) (bm_Tm_k hT).2
  unfold bm_Fe bm_NF at h ⊢
  rw [E p t (Nat.le_refl _) (Nat.le_refl _), E _ t k1 (Nat.le_refl _), E _ _ k1 k3, E _ _ k2 k4, E _ t k2 (Nat.le_refl _)]
  exact h
theorem bm_Fe_new {ar kd pl pf ps pA pB pC tc t0 t1 hX fi : Nat → Int32} {H : Nat → Nat} {cN p t : Nat} {v : Int32} (hN : bm_Nd ar kd pl pf ps pA pB pC cN p) (hT : bm_Tm ar tc t0 t1 hX H cN t) (hp : p < 64) (ht : t < 64)
    (h : bm_NF kd pl pf ps tc t0 t1 fi p t v) : bm_Fe kd pl pf ps tc t0 t1 (upd fi (p * 64 + t) v) p t := by
  have E : ∀ a b, a < p → b ≤ t → upd fi (p * 64 + t) v (a * 64 + b) = fi (a * 64 + b) := fun a b ha hb => pk_un (by omega)
  have k3 := bm_kb (by omega) (bm_Tm_k hT).1
  have k4 := bm_kb (by omega) (bm_Tm_k hT).2
  obtain ⟨h0, h1, h2, h3⟩ := h
  unfold bm_Fe bm_NF
  rw [pk_us]
  rcases hN with ⟨ek, e1, e2⟩ | ⟨x, q, ek, _, hq, _, e1, e2, _⟩ | ⟨c, ek, _, _, _, e1, e2, _⟩ | ⟨c, q, ek, _, _, hq, _, e1, e2, _⟩ | ⟨c, q, r, ek, _, _, hq, hr, _, _, e1, e2, _⟩ | ⟨q, r, ek, hq, hr, _, e1, e2, _⟩
  · refine ⟨fun _ => h0 ek, fun z => ?_, fun z => ?_, fun z => ?_⟩ <;> (rw [ek] at z; exact absurd z (by decide))
  · refine ⟨fun z => ?_, fun _ => ?_, fun z => ?_, fun z => ?_⟩
    · rw [ek] at z; exact absurd z (by decide)
    · have h1' := h1 ek
      rw [e1, nI_clamp (by omega)] at h1' ⊢
      rw [E q t hq (Nat.le_refl _)]
      exact h1'
    · rw [ek] at z; exact absurd z (by decide)
    · rw [ek] at z; exact absurd z (by decide)
  · refine ⟨fun z => ?_, fun z => ?_, fun _ => ?_, fun z => ?_⟩
    · rw [ek] at z; exact absurd z (by decide)
    · rw [ek] at z; exact absurd z (by decide)
    · rw [h2 ek]
      exact ⟨fun z => ⟨z.1, Or.inl e1, Or.inl e2⟩, fun z => ⟨z.1, Or.inl e1, Or.inl e2⟩⟩
    · rw [ek] at z; exact absurd z (by decide)
  · refine ⟨fun z => ?_, fun z => ?_, fun _ => ?_, fun z => ?_⟩
    · rw [ek] at z; exact absurd z (by decide)
    · rw [ek] at z; exact absurd z (by decide)
    · have e3 : (pf p).toNatClampNeg = q := by rw [e1, nI_clamp (by omega)]
      rw [h2 ek, e3, E q _ hq k3]
      exact ⟨fun z => ⟨z.1, z.2.1, Or.inl e2⟩, fun z => ⟨z.1, z.2.1, Or.inl e2⟩⟩
    · rw [ek] at z; exact absurd z (by decide)
  · refine ⟨fun z => ?_, fun z => ?_, fun _ => ?_, fun z => ?_⟩
    · rw [ek] at z; exact absurd z (by decide)
    · rw [ek] at z; exact absurd z (by decide)
    · have e3 : (pf p).toNatClampNeg = q := by rw [e1, nI_clamp (by omega)]
      have e4 : (ps p).toNatClampNeg = r := by rw [e2, nI_clamp (by omega)]
      rw [h2 ek, e3, e4, E q _ hq k3, E r _ hr k4]
    · rw [ek] at z; exact absurd z (by decide)
  · refine ⟨fun z => ?_, fun z => ?_, fun z => ?_, fun _ => ?_⟩
    · rw [ek] at z; exact absurd z (by decide)
    · rw [ek] at z; exact absurd z (by decide)
    · rw [ek] at z; exact absurd z (by decide)
    · have e3 : (pf p).toNatClampNeg = q := by rw [e1, nI_clamp (by omega)]
      have e4 : (ps p).toNatClampNeg = r := by rw [e2, nI_clamp (by omega)]
      rw [h3 ek, e3, e4, E q _ hq (Nat.le_refl _), E r _ hr (Nat.le_refl _)]
theorem bm_Fe_c {kd pl pf ps tc t0 t1 kd' pl' pf' ps' tc' t0' t1' fi : Nat → Int32} {p t : Nat} (h : bm_Fe kd pl pf ps tc t0 t1 fi p t)
    (h1 : kd' p = kd p) (h2 : pl' p = pl p) (h3 : pf' p = pf p) (h4 : ps' p = ps p) (h5 : tc' t = tc t) (h6 : t0' t = t0 t) (h7 : t1' t = t1 t) : bm_Fe kd' pl' pf' ps' tc' t0' t1' fi p t := by
  unfold bm_Fe bm_NF at h ⊢
  rw [h1, h2, h3, h4, h5, h6, h7]
  exact h
theorem bm_Tm_c {ar tc t0 t1 hX tc' t0' t1' hX' : Nat → Int32} {H H' : Nat → Nat} {cN i : Nat} (h : bm_Tm ar tc t0 t1 hX H cN i)
    (h1 : tc' i = tc i) (h2 : t0' i = t0 i) (h3 : t1' i = t1 i) (h4 : hX' i = hX i) (h5 : ∀ j, j ≤ i → H' j = H j) : bm_Tm ar tc' t0' t1' hX' H' cN i := by
  obtain ⟨c, hc, a1, a2, a3, a4, a5⟩ := h
  refine ⟨c, hc, h1.trans a1, by rw [h4, h5 i (Nat.le_refl _)]; exact a2, by rw [h5 i (Nat.le_refl _)]; exact a3, by rw [h5 i (Nat.le_refl _)]; exact a4, ?_⟩
  rcases a5 with ⟨b1, b2, b3, b4⟩ | ⟨j, b1, b2, b3, b4, b5⟩ | ⟨j, k, b1, b2, b3, b4, b5, b6⟩
  · exact Or.inl ⟨b1, h2.trans b2, h3.trans b3, by rw [h5 i (Nat.le_refl _)]; exact b4⟩
  · exact Or.inr (Or.inl ⟨j, b1, h3.trans b2, b3, h2.trans b4, by rw [h5 i (Nat.le_refl _), h5 j (by omega)]; exact b5⟩)
  · exact Or.inr (Or.inr ⟨j, k, b1, b2, b3, h2.trans b4, h3.trans b5, by rw [h5 i (Nat.le_refl _), h5 j (by omega), h5 k (by omega)]; exact b6⟩)
/-- the binding of variable x by node p at term t: the last write (fuel first) -/
def bm_D (kd pl pf ps t0 t1 fi : Nat → Int32) (x : Nat) : Nat → Nat → Nat → Int32
  | 0, _, _ => -1
  | f + 1, p, t =>
    if kd p = 1 then bm_mg (if pl p = nI x then nI t else -1) (bm_D kd pl pf ps t0 t1 fi x f (pf p).toNatClampNeg t)
    else if kd p = 2 then bm_mg (if ps p = -1 then -1 else bm_D kd pl pf ps t0 t1 fi x f (ps p).toNatClampNeg (t1 t).toNatClampNeg) (if pf p = -1 then -1 else bm_D kd pl pf ps t0 t1 fi x f (pf p).toNatClampNeg (t0 t).toNatClampNeg)
    else if kd p = 3 then (if fi ((pf p).toNatClampNeg * 64 + t) = 1 then bm_D kd pl pf ps t0 t1 fi x f (pf p).toNatClampNeg t else bm_D kd pl pf ps t0 t1 fi x f (ps p).toNatClampNeg t)
    else -1
theorem bm_D_u {kd pl pf ps t0 t1 fi : Nat → Int32} {x f p t : Nat} : bm_D kd pl pf ps t0 t1 fi x (f + 1) p t =
    if kd p = 1 then bm_mg (if pl p = nI x then nI t else -1) (bm_D kd pl pf ps t0 t1 fi x f (pf p).toNatClampNeg t)
    else if kd p = 2 then bm_mg (if ps p = -1 then -1 else bm_D kd pl pf ps t0 t1 fi x f (ps p).toNatClampNeg (t1 t).toNatClampNeg) (if pf p = -1 then -1 else bm_D kd pl pf ps t0 t1 fi x f (pf p).toNatClampNeg (t0 t).toNatClampNeg)
    else if kd p = 3 then (if fi ((pf p).toNatClampNeg * 64 + t) = 1 then bm_D kd pl pf ps t0 t1 fi x f (pf p).toNatClampNeg t else bm_D kd pl pf ps t0 t1 fi x f (ps p).toNatClampNeg t)
    else -1 := rfl
theorem bm_k10 : ¬ (0 : Int32) = 1 := by decide
theorem bm_k20 : ¬ (0 : Int32) = 2 := by decide
theorem bm_k30 : ¬ (0 : Int32) = 3 := by decide
theorem bm_k12 : ¬ (2 : Int32) = 1 := by decide
theorem bm_k13 : ¬ (3 : Int32) = 1 := by decide
theorem bm_k23 : ¬ (3 : Int32) = 2 := by decide
section
variable {ar kd pl pf ps pA pB pC us tc t0 t1 hX fi : Nat → Int32} {H sz : Nat → Nat} {cN pN tN : Nat}
theorem bm_D_0 {x f p t : Nat} (ek : kd p = 0) : bm_D kd pl pf ps t0 t1 fi x f p t = -1 := by
  cases f with
  | zero => rfl
  | succ f => rw [bm_D_u, ek, if_neg bm_k10, if_neg bm_k20, if_neg bm_k30]
theorem bm_D_1 {x f p t q : Nat} (ek : kd p = 1) (e1 : pf p = nI q) (hq : q < 2 ^ 31) : bm_D kd pl pf ps t0 t1 fi x (f + 1) p t = bm_mg (if pl p = nI x then nI t else -1) (bm_D kd pl pf ps t0 t1 fi x f q t) := by
  rw [bm_D_u, if_pos ek, e1, nI_clamp hq]
theorem bm_D_20 {x f p t : Nat} (ek : kd p = 2) (e1 : pf p = -1) (e2 : ps p = -1) : bm_D kd pl pf ps t0 t1 fi x f p t = -1 := by
  cases f with
  | zero => rfl
  | succ f => rw [bm_D_u, ek, if_neg bm_k12, if_pos rfl, if_pos e2, if_pos e1, bm_mg_l]
theorem bm_D_21 {x f p t q j : Nat} (ek : kd p = 2) (e1 : pf p = nI q) (hq : q < 2 ^ 31) (e2 : ps p = -1) (et : t0 t = nI j) (hj : j < 2 ^ 31) : bm_D kd pl pf ps t0 t1 fi x (f + 1) p t = bm_D kd pl pf ps t0 t1 fi x f q j := by
  rw [bm_D_u, ek, if_neg bm_k12, if_pos rfl, if_pos e2, e1, if_neg (bm_ne1 hq), et, nI_clamp hq, nI_clamp hj, bm_mg_l]
theorem bm_D_22 {x f p t q r j k : Nat} (ek : kd p = 2) (e1 : pf p = nI q) (hq : q < 2 ^ 31) (e2 : ps p = nI r) (hr : r < 2 ^ 31) (et : t0 t = nI j) (hj : j < 2 ^ 31) (eu : t1 t = nI k) (hk : k < 2 ^ 31) :
    bm_D kd pl pf ps t0 t1 fi x (f + 1) p t = bm_mg (bm_D kd pl pf ps t0 t1 fi x f r k) (bm_D kd pl pf ps t0 t1 fi x f q j) := by
  rw [bm_D_u, ek, if_neg bm_k12, if_pos rfl, e2, if_neg (bm_ne1 hr), e1, if_neg (bm_ne1 hq), et, eu, nI_clamp hq, nI_clamp hj, nI_clamp hr, nI_clamp hk]
theorem bm_D_3 {x f p t q r : Nat} (ek : kd p = 3) (e1 : pf p = nI q) (hq : q < 2 ^ 31) (e2 : ps p = nI r) (hr : r < 2 ^ 31) :
    bm_D kd pl pf ps t0 t1 fi x (f + 1) p t = if fi (q * 64 + t) = 1 then bm_D kd pl pf ps t0 t1 fi x f q t else bm_D kd pl pf ps t0 t1 fi x f r t := by
  rw [bm_D_u, ek, if_neg bm_k13, if_neg bm_k23, if_pos rfl, e1, e2, nI_clamp hq, nI_clamp hr]
theorem bm_D_st {x : Nat} (hN : ∀ p, p < pN → bm_Nd ar kd pl pf ps pA pB pC cN p) (hP : pN ≤ 64) : ∀ f g p t, p < pN → p < f → p < g → bm_D kd pl pf ps t0 t1 fi x f p t = bm_D kd pl pf ps t0 t1 fi x g p t := by
  intro f
  induction f with
  | zero => intro g p t _ h; omega
  | succ f ih =>
    intro g p t hp hf hg
    obtain ⟨g, rfl⟩ : ∃ g', g = g' + 1 := ⟨g - 1, by omega⟩
    rcases hN p hp with ⟨ek, e1, e2⟩ | ⟨y, q, ek, _, hq, _, e1, e2, _⟩ | ⟨c, ek, _, _, _, e1, e2, _⟩ | ⟨c, q, ek, _, _, hq, _, e1, e2, _⟩ | ⟨c, q, r, ek, _, _, hq, hr, _, _, e1, e2, _⟩ | ⟨q, r, ek, hq, hr, _, e1, e2, _⟩
    · rw [bm_D_0 ek, bm_D_0 ek]
    · rw [bm_D_1 ek e1 (by omega), bm_D_1 ek e1 (by omega), ih g q t (by omega) (by omega) (by omega)]
    · rw [bm_D_20 ek e1 e2, bm_D_20 ek e1 e2]
    · rw [bm_D_u, bm_D_u, ek, if_neg bm_k12, if_pos rfl, if_neg bm_k12, if_pos rfl, if_pos e2, if_pos e2, e1, nI_clamp (by omega), ih g q _ (by omega) (by omega) (by omega)]
    · rw [bm_D_u, bm_D_u, ek, if_neg bm_k12, if_pos rfl, if_neg bm_k12, if_pos rfl, e1, e2, nI_clamp (by omega), nI_clamp (by omega), ih g q _ (by omega) (by omega) (by omega), ih g r _ (by omega) (by omega) (by omega)]
    · rw [bm_D_3 ek e1 (by omega) e2 (by omega), bm_D_3 ek e1 (by omega) e2 (by omega), ih g q t (by omega) (by omega) (by omega), ih g r t (by omega) (by omega) (by omega)]
/-- all that a walk needs to know at a node p that fits a term t -/
def bm_St (kd pl pf ps pA pB pC t0 t1 fi ar tc : Nat → Int32) (sz : Nat → Nat) (cN p t : Nat) : Prop :=
  (kd p = 0 ∧ sz p = 1 ∧ ∀ x, bm_D kd pl pf ps t0 t1 fi x 64 p t = -1) ∨
  (∃ y q, kd p = 1 ∧ y < 8 ∧ q < p ∧ pl p = nI y ∧ pf p = nI q ∧ ps p = -1 ∧ pA p = nI y ∧ pB p = nI q ∧ sz p = 1 + sz q ∧ fi (q * 64 + t) = 1 ∧
    ∀ x, bm_D kd pl pf ps t0 t1 fi x 64 p t = bm_mg (if pl p = nI x then nI t else -1) (bm_D kd pl pf ps t0 t1 fi x 64 q t)) ∨
  (∃ c, kd p = 2 ∧ c < cN ∧ ar c = 0 ∧ pf p = -1 ∧ ps p = -1 ∧ pA p = nI c ∧ sz p = 1 ∧ ∀ x, bm_D kd pl pf ps t0 t1 fi x 64 p t = -1) ∨
  (∃ c q j, kd p = 2 ∧ c < cN ∧ ar c = 1 ∧ q < p ∧ j < t ∧ pl p = nI c ∧ tc t = nI c ∧ pf p = nI q ∧ ps p = -1 ∧ pA p = nI c ∧ pB p = nI q ∧ t0 t = nI j ∧ sz p = 1 + sz q ∧ fi (q * 64 + j) = 1 ∧
    ∀ x, bm_D kd pl pf ps t0 t1 fi x 64 p t = bm_D kd pl pf ps t0 t1 fi x 64 q j) ∨
  (∃ c q r j k, kd p = 2 ∧ c < cN ∧ ar c = 2 ∧ q < p ∧ r < p ∧ j < t ∧ k < t ∧ pl p = nI c ∧ tc t = nI c ∧ pf p = nI q ∧ ps p = nI r ∧ pA p = nI c ∧ pB p = nI q ∧ pC p = nI r ∧ t0 t = nI j ∧ t1 t = nI k ∧ sz p = 1 + sz q + sz r ∧ fi (q * 64 + j) = 1 ∧ fi (r * 64 + k) = 1 ∧
    ∀ x, bm_D kd pl pf ps t0 t1 fi x 64 p t = bm_mg (bm_D kd pl pf ps t0 t1 fi x 64 r k) (bm_D kd pl pf ps t0 t1 fi x 64 q j)) ∨
  (∃ q r, kd p = 3 ∧ q < p ∧ r < p ∧ pf p = nI q ∧ ps p = nI r ∧ pA p = nI q ∧ pB p = nI r ∧ sz p = 1 + sz q + sz r ∧
    ((fi (q * 64 + t) = 1 ∧ ∀ x, bm_D kd pl pf ps t0 t1 fi x 64 p t = bm_D kd pl pf ps t0 t1 fi x 64 q t) ∨
     (fi (q * 64 + t) = 0 ∧ fi (r * 64 + t) = 1 ∧ ∀ x, bm_D kd pl pf ps t0 t1 fi x 64 p t = bm_D kd pl pf ps t0 t1 fi x 64 r t)))
def bm_IF (kd pl pf ps tc t0 t1 fi : Nat → Int32) (pN tN : Nat) : Prop := (∀ i, fi i = 0 ∨ fi i = 1) ∧ ∀ p t, p < pN → t < tN → bm_Fe kd pl pf ps tc t0 t1 fi p t
def bm_IT (ar tc t0 t1 hX : Nat → Int32) (H : Nat → Nat) (cN tN : Nat) : Prop := tN ≤ 64 ∧ ∀ i, i < tN → bm_Tm ar tc t0 t1 hX H cN i
theorem bm_ar {c d : Nat} (hc : c < cN) (hd : d < cN) (hcN : cN ≤ 8) (e : nI c = nI d) : c = d := bm_im e (by omega) (by omega)
theorem bm_step (hcN : cN ≤ 8) (hP : bm_IP ar kd pl pf ps pA pB pC us sz cN pN) (hT : bm_IT ar tc t0 t1 hX H cN tN) (hF : bm_IF kd pl pf ps tc t0 t1 fi pN tN) {p t : Nat} (hp : p < pN) (ht : t < tN) (h1 : fi (p * 64 + t) = 1) :
    bm_St kd pl pf ps pA pB pC t0 t1 fi ar tc sz cN p t := by
  obtain ⟨hP6, hNd, hSz, _, _, _, _⟩ := hP
  obtain ⟨hT6, hTm⟩ := hT
  obtain ⟨h01, hFe⟩ := hF
  have st : ∀ x q u, q < p → bm_D kd pl pf ps t0 t1 fi x 63 q u = bm_D kd pl pf ps t0 t1 fi x 64 q u := fun x q u hq => bm_D_st hNd hP6 63 64 q u (by omega) (by omega) (by omega)
  have s := hSz p hp
  unfold bm_Sz at s
  obtain ⟨_, f1, f2, f3⟩ := hFe p t hp ht
  rcases hNd p hp with ⟨ek, e1, e2⟩ | ⟨y, q, ek, hy, hq, el, e1, e2, eA, eB⟩ | ⟨c, ek, hc, ea, el, e1, e2, eA⟩ | ⟨c, q, ek, hc, ea, hq, el, e1, e2, eA, eB⟩ | ⟨c, q, r, ek, hc, ea, hq, hr, _, el, e1, e2, eA, eB, eC⟩ | ⟨q, r, ek, hq, hr, _, e1, e2, eA, eB⟩
  · rw [e1, e2, bm_szc_n] at s
    exact Or.inl ⟨ek, s, fun x => bm_D_0 ek⟩
  · rw [e1, e2, bm_szc_n, bm_szc_s (by omega)] at s
    have f := f1 ek
    rw [e1, nI_clamp (by omega), h1] at f
    refine Or.inr (Or.inl ⟨y, q, ek, hy, hq, el, e1, e2, eA, eB, s, f.symm, fun x => ?_⟩)
    rw [bm_D_1 ek e1 (by omega), st x q t hq]
  · rw [e1, e2, bm_szc_n] at s
    exact Or.inr (Or.inr (Or.inl ⟨c, ek, hc, ea, e1, e2, eA, s, fun x => bm_D_20 ek e1 e2⟩))
  · rw [e1, e2, bm_szc_n, bm_szc_s (by omega)] at s
    obtain ⟨g1, g2, _⟩ := (f2 ek).mp h1
    obtain ⟨d, hd, td, _, _, _, hk⟩ := hTm t ht
    rw [el, td] at g1
    have := bm_ar hc hd hcN g1
    subst this
    obtain ⟨j, hj, ej⟩ : ∃ j, j < t ∧ t0 t = nI j := by
      rcases hk with ⟨z, _⟩ | ⟨j, _, _, hj, ej, _⟩ | ⟨j, k, z, _⟩
      · rw [ea] at z; exact absurd z (by decide)
      · exact ⟨j, hj, ej⟩
      · rw [ea] at z; exact absurd z (by decide)
    have g2' := g2.resolve_left (by rw [e1]; exact bm_ne1 (by omega))
    rw [e1, ej, nI_clamp (by omega), nI_clamp (by omega)] at g2'
    refine Or.inr (Or.inr (Or.inr (Or.inl ⟨c, q, j, ek, hc, ea, hq, hj, el, td, e1, e2, eA, eB, ej, s, g2', fun x => ?_⟩)))
    rw [bm_D_21 ek e1 (by omega) e2 ej (by omega), st x q j hq]
  · rw [e1, e2, bm_szc_s (by omega), bm_szc_s (by omega)] at s
    obtain ⟨g1, g2, g3⟩ := (f2 ek).mp h1
    obtain ⟨d, hd, td, _, _, _, hk⟩ := hTm t ht
    rw [el, td] at g1
    have := bm_ar hc hd hcN g1
    subst this
    obtain ⟨j, k, hj, hk', ej, ek'⟩ : ∃ j k, j < t ∧ k < t ∧ t0 t = nI j ∧ t1 t = nI k := by
      rcases hk with ⟨z, _⟩ | ⟨j, z, _⟩ | ⟨j, k, _, hj, hk, ej, ek, _⟩
      · rw [ea] at z; exact absurd z (by decide)
      · rw [ea] at z; exact absurd z (by decide)
      · exact ⟨j, k, hj, hk, ej, ek⟩
    have g2' := g2.resolve_left (by rw [e1]; exact bm_ne1 (by omega))
    have g3' := g3.resolve_left (by rw [e2]; exact bm_ne1 (by omega))
    rw [e1, ej, nI_clamp (by omega), nI_clamp (by omega)] at g2'
    rw [e2, ek', nI_clamp (by omega), nI_clamp (by omega)] at g3'
    refine Or.inr (Or.inr (Or.inr (Or.inr (Or.inl ⟨c, q, r, j, k, ek, hc, ea, hq, hr, hj, hk', el, td, e1, e2, eA, eB, eC, ej, ek', s, g2', g3', fun x => ?_⟩))))
    rw [bm_D_22 ek e1 (by omega) e2 (by omega) ej (by omega) ek' (by omega), st x q j hq, st x r k hr]
  · rw [e1, e2, bm_szc_s (by omega), bm_szc_s (by omega)] at s
    have g := (f3 ek).mp h1
    rw [e1, e2, nI_clamp (by omega), nI_clamp (by omega)] at g
    refine Or.inr (Or.inr (Or.inr (Or.inr (Or.inr ⟨q, r, ek, hq, hr, e1, e2, eA, eB, s, ?_⟩))))
    by_cases z : fi (q * 64 + t) = 1
    · refine Or.inl ⟨z, fun x => ?_⟩
      rw [bm_D_3 ek e1 (by omega) e2 (by omega), if_pos z, st x q t hq]
    · refine Or.inr ⟨(h01 _).resolve_right z, g.resolve_left z, fun x => ?_⟩
      rw [bm_D_3 ek e1 (by omega) e2 (by omega), if_neg z, st x r t hr]
/-- a binding is none, or a term -/
theorem bm_D_r (hcN : cN ≤ 8) (hP : bm_IP ar kd pl pf ps pA pB pC us sz cN pN) (hT : bm_IT ar tc t0 t1 hX H cN tN) (hF : bm_IF kd pl pf ps tc t0 t1 fi pN tN) {x : Nat} : ∀ n p t, p < n → p < pN → t < tN → fi (p * 64 + t) = 1 →
    bm_D kd pl pf ps t0 t1 fi x 64 p t = -1 ∨ ∃ u, u < tN ∧ bm_D kd pl pf ps t0 t1 fi x 64 p t = nI u := by
  intro n
  induction n with
  | zero => intro p t h; omega
  | succ n ih =>
    intro p t hn hp ht h1
    rcases bm_step hcN hP hT hF hp ht h1 with ⟨_, _, hD⟩ | ⟨y, q, _, _, hq, _, _, _, _, _, _, hf, hD⟩ | ⟨c, _, _, _, _, _, _, _, hD⟩ | ⟨c, q, j, _, _, _, hq, hj, _, _, _, _, _, _, _, _, hf, hD⟩ | ⟨c, q, r, j, k, _, _, _, hq, hr, hj, hk, _, _, _, _, _, _, _, _, _, _, hf, hg, hD⟩ | ⟨q, r, _, hq, hr, _, _, _, _, _, ⟨hf, hD⟩ | ⟨_, hf, hD⟩⟩
    · exact Or.inl (hD x)
    · rw [hD x]
      by_cases z : pl p = nI x
      · rw [if_pos z, bm_mg_n _ (bm_ne1 (by have := hT.1; omega))]
        exact Or.inr ⟨t, ht, rfl⟩
      · rw [if_neg z, bm_mg_l]
        exact ih q t (by omega) (by omega) ht hf
    · exact Or.inl (hD x)
    · rw [hD x]
      exact ih q j (by omega) (by omega) (by omega) hf
    · rw [hD x]
      rcases ih r k (by omega) (by omega) (by omega) hg with z | ⟨u, hu, z⟩
      · rw [z, bm_mg_l]
        exact ih q j (by omega) (by omega) (by omega) hf
      · rw [z, bm_mg_n _ (bm_ne1 (by have := hT.1; omega))]
        exact Or.inr ⟨u, hu, rfl⟩
    · rw [hD x]
      exact ih q t (by omega) (by omega) ht hf
    · rw [hD x]
      exact ih r t (by omega) (by omega) ht hf
end
