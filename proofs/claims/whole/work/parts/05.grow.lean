/-! a new term, a new pattern: the invariants grow -/
def bm_FG (kd pl pf ps tc t0 t1 fi : Nat → Int32) (P : Nat → Nat → Prop) : Prop := (∀ i, fi i = 0 ∨ fi i = 1) ∧ ∀ p t, P p t → bm_Fe kd pl pf ps tc t0 t1 fi p t
section
variable {ar kd pl pf ps pA pB pC us tc t0 t1 hX fi : Nat → Int32} {H sz : Nat → Nat} {cN pN tN : Nat}
theorem bm_FG_m {P Q : Nat → Nat → Prop} (h : bm_FG kd pl pf ps tc t0 t1 fi P) (hQ : ∀ p t, Q p t → P p t) : bm_FG kd pl pf ps tc t0 t1 fi Q := ⟨h.1, fun p t z => h.2 p t (hQ p t z)⟩
theorem bm_FG_step {P : Nat → Nat → Prop} {i j : Nat} {v : Int32} (hp6 : pN ≤ 64) (ht6 : tN ≤ 64) (hN : ∀ p, p < pN → bm_Nd ar kd pl pf ps pA pB pC cN p) (hT : ∀ t, t < tN → bm_Tm ar tc t0 t1 hX H cN t)
    (hP : ∀ p t, P p t → p < pN ∧ t < tN) (hi : i < pN) (hj : j < tN) (h : bm_FG kd pl pf ps tc t0 t1 fi P) (hv : bm_NF kd pl pf ps tc t0 t1 fi i j v) (h01 : v = 0 ∨ v = 1)
    (hne : ∀ p t, P p t → ∀ q u, q ≤ p → u ≤ t → ¬ (q = i ∧ u = j)) : bm_FG kd pl pf ps tc t0 t1 (upd fi (i * 64 + j) v) (fun p t => P p t ∨ (p = i ∧ t = j)) := by
  refine ⟨fun k => ?_, fun p t z => ?_⟩
  · by_cases e : k = i * 64 + j
    · rw [e, pk_us]
      exact h01
    · rw [pk_un e]
      exact h.1 k
  · rcases z with z | ⟨rfl, rfl⟩
    · obtain ⟨a, b⟩ := hP p t z
      exact bm_Fe_upd (hN p a) (hT t b) (by omega) (by omega) (by omega) (h.2 p t z) (hne p t z)
    · exact bm_Fe_new (hN p hi) (hT t hj) (by omega) (by omega) hv
theorem bm_IF_FG (h : bm_IF kd pl pf ps tc t0 t1 fi pN tN) : bm_FG kd pl pf ps tc t0 t1 fi (fun p t => p < pN ∧ t < tN) := ⟨h.1, fun p t z => h.2 p t z.1 z.2⟩
theorem bm_FG_IF (h : bm_FG kd pl pf ps tc t0 t1 fi (fun p t => p < pN ∧ t < tN)) : bm_IF kd pl pf ps tc t0 t1 fi pN tN := ⟨h.1, fun p t a b => h.2 p t ⟨a, b⟩⟩
/-- the table before the loop of a new term -/
theorem bm_FG_t {c f s : Int32} (h : bm_IF kd pl pf ps tc t0 t1 fi pN tN) : bm_FG kd pl pf ps (upd tc tN c) (upd t0 tN f) (upd t1 tN s) fi (fun p t => p < pN ∧ (t < tN ∨ (t = tN ∧ p < 0))) := by
  refine ⟨h.1, fun p t z => ?_⟩
  have ht : t < tN := by omega
  exact bm_Fe_c (h.2 p t z.1 ht) rfl rfl rfl rfl (pk_un (by omega)) (pk_un (by omega)) (pk_un (by omega))
theorem bm_FG_ts {i : Nat} {v : Int32} (hp6 : pN ≤ 64) (ht6 : tN < 64) (hN : ∀ p, p < pN → bm_Nd ar kd pl pf ps pA pB pC cN p) (hT : ∀ t, t < tN + 1 → bm_Tm ar tc t0 t1 hX H cN t) (hi : i < pN)
    (h : bm_FG kd pl pf ps tc t0 t1 fi (fun p t => p < pN ∧ (t < tN ∨ (t = tN ∧ p < i)))) (hv : bm_NF kd pl pf ps tc t0 t1 fi i tN v) (h01 : v = 0 ∨ v = 1) :
    bm_FG kd pl pf ps tc t0 t1 (upd fi (i * 64 + tN) v) (fun p t => p < pN ∧ (t < tN ∨ (t = tN ∧ p < i + 1))) :=
  bm_FG_m (bm_FG_step (pN := pN) (tN := tN + 1) hp6 (by omega) hN hT (fun p t z => by omega) hi (by omega) h hv h01 (fun p t z q u hq hu w => by omega)) (fun p t z => by omega)
theorem bm_FG_te (h : bm_FG kd pl pf ps tc t0 t1 fi (fun p t => p < pN ∧ (t < tN ∨ (t = tN ∧ p < pN)))) : bm_IF kd pl pf ps tc t0 t1 fi pN (tN + 1) :=
  bm_FG_IF (bm_FG_m h (fun p t z => by omega))
/-- the table before the loop of a new pattern -/
theorem bm_FG_p {k a f s : Int32} (h : bm_IF kd pl pf ps tc t0 t1 fi pN tN) : bm_FG (upd kd pN k) (upd pl pN a) (upd pf pN f) (upd ps pN s) tc t0 t1 fi (fun p t => t < tN ∧ (p < pN ∨ (p = pN ∧ t < 0))) := by
  refine ⟨h.1, fun p t z => ?_⟩
  have hp : p < pN := by omega
  exact bm_Fe_c (h.2 p t hp z.1) (pk_un (by omega)) (pk_un (by omega)) (pk_un (by omega)) (pk_un (by omega)) rfl rfl rfl
theorem bm_FG_ps {i : Nat} {v : Int32} (hp6 : pN < 64) (ht6 : tN ≤ 64) (hN : ∀ p, p < pN + 1 → bm_Nd ar kd pl pf ps pA pB pC cN p) (hT : ∀ t, t < tN → bm_Tm ar tc t0 t1 hX H cN t) (hi : i < tN)
    (h : bm_FG kd pl pf ps tc t0 t1 fi (fun p t => t < tN ∧ (p < pN ∨ (p = pN ∧ t < i)))) (hv : bm_NF kd pl pf ps tc t0 t1 fi pN i v) (h01 : v = 0 ∨ v = 1) :
    bm_FG kd pl pf ps tc t0 t1 (upd fi (pN * 64 + i) v) (fun p t => t < tN ∧ (p < pN ∨ (p = pN ∧ t < i + 1))) :=
  bm_FG_m (bm_FG_step (pN := pN + 1) (tN := tN) (by omega) ht6 hN hT (fun p t z => by omega) (by omega) hi h hv h01 (fun p t z q u hq hu w => by omega)) (fun p t z => by omega)
theorem bm_FG_pe (h : bm_FG kd pl pf ps tc t0 t1 fi (fun p t => t < tN ∧ (p < pN ∨ (p = pN ∧ t < tN)))) : bm_IF kd pl pf ps tc t0 t1 fi (pN + 1) tN :=
  bm_FG_IF (bm_FG_m h (fun p t z => by omega))
theorem bm_IT_new {c f s h : Int32} {n : Nat} (hT : bm_IT ar tc t0 t1 hX H cN tN) (ht6 : tN < 64) (hnew : bm_Tm ar (upd tc tN c) (upd t0 tN f) (upd t1 tN s) (upd hX tN h) (bm_un H tN n) cN tN) :
    bm_IT ar (upd tc tN c) (upd t0 tN f) (upd t1 tN s) (upd hX tN h) (bm_un H tN n) cN (tN + 1) := by
  refine ⟨by omega, fun i hi => ?_⟩
  by_cases e : i = tN
  · rw [e]
    exact hnew
  · exact bm_Tm_c (hT.2 i (by omega)) (pk_un e) (pk_un e) (pk_un e) (pk_un e) (fun j hj => bm_un_n (by omega))
/-- the rows -/
def bm_Rw (rp rg r1 r2 : Nat → Int32) (sz : Nat → Nat) (pN r : Nat) : Prop :=
  ∃ q, q < pN ∧ rp r = nI q ∧ sz q ≤ 64 ∧ (rg r = 0 ∨ (∃ x y, (rg r = 1 ∨ rg r = 2) ∧ x < 8 ∧ y < 8 ∧ r1 r = nI x ∧ r2 r = nI y) ∨ (∃ x, (rg r = 3 ∨ rg r = 4) ∧ x < 8 ∧ r1 r = nI x))
def bm_IR (rp rg r1 r2 : Nat → Int32) (sz : Nat → Nat) (pN rN : Nat) : Prop := rN ≤ 8 ∧ ∀ r, r < rN → bm_Rw rp rg r1 r2 sz pN r
theorem bm_IR_p {rp rg r1 r2 : Nat → Int32} {rN v : Nat} (h : bm_IR rp rg r1 r2 sz pN rN) : bm_IR rp rg r1 r2 (bm_un sz pN v) (pN + 1) rN := by
  refine ⟨h.1, fun r hr => ?_⟩
  obtain ⟨q, hq, e, hs, g⟩ := h.2 r hr
  exact ⟨q, by omega, e, by rw [bm_un_n (by omega)]; exact hs, g⟩
theorem bm_IR_new {rp rg r1 r2 : Nat → Int32} {rN : Nat} {p g a b : Int32} (h : bm_IR rp rg r1 r2 sz pN rN) (hr : rN < 8) (hnew : bm_Rw (upd rp rN p) (upd rg rN g) (upd r1 rN a) (upd r2 rN b) sz pN rN) : bm_IR (upd rp rN p) (upd rg rN g) (upd r1 rN a) (upd r2 rN b) sz pN (rN + 1) := by
  refine ⟨by omega, fun r hr' => ?_⟩
  by_cases e : r = rN
  · rw [e]
    exact hnew
  · have := h.2 r (by omega)
    unfold bm_Rw at this ⊢
    rw [pk_un e, pk_un e, pk_un e, pk_un e]
    exact this
theorem bm_IR_0 {rp rg r1 r2 : Nat → Int32} {pN : Nat} : bm_IR rp rg r1 r2 sz pN 0 := ⟨by omega, fun _ h => absurd h (Nat.not_lt_zero _)⟩
theorem bm_IF_0 (h : ∀ i, fi i = 0 ∨ fi i = 1) : bm_IF kd pl pf ps tc t0 t1 fi 0 tN := ⟨h, fun _ _ h => absurd h (Nat.not_lt_zero _)⟩
theorem bm_IT_0 : bm_IT ar tc t0 t1 hX H cN 0 := ⟨by omega, fun _ h => absurd h (Nat.not_lt_zero _)⟩
end
