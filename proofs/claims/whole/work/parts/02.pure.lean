/-! the pure picture: nodes of patterns and terms, fits, sizes, bindings -/
/-- pattern node p, six cases: wild, as, constructor of arity 0, 1, 2, or -/
def bm_Nd (ar kd pl pf ps pA pB pC : Nat → Int32) (cN p : Nat) : Prop :=
  (kd p = 0 ∧ pf p = -1 ∧ ps p = -1) ∨
  (∃ x q, kd p = 1 ∧ x < 8 ∧ q < p ∧ pl p = nI x ∧ pf p = nI q ∧ ps p = -1 ∧ pA p = nI x ∧ pB p = nI q) ∨
  (∃ c, kd p = 2 ∧ c < cN ∧ ar c = 0 ∧ pl p = nI c ∧ pf p = -1 ∧ ps p = -1 ∧ pA p = nI c) ∨
  (∃ c q, kd p = 2 ∧ c < cN ∧ ar c = 1 ∧ q < p ∧ pl p = nI c ∧ pf p = nI q ∧ ps p = -1 ∧ pA p = nI c ∧ pB p = nI q) ∨
  (∃ c q r, kd p = 2 ∧ c < cN ∧ ar c = 2 ∧ q < p ∧ r < p ∧ q ≠ r ∧ pl p = nI c ∧ pf p = nI q ∧ ps p = nI r ∧ pA p = nI c ∧ pB p = nI q ∧ pC p = nI r) ∨
  (∃ q r, kd p = 3 ∧ q < p ∧ r < p ∧ q ≠ r ∧ pf p = nI q ∧ ps p = nI r ∧ pA p = nI q ∧ pB p = nI r)
def bm_Ch (pf ps : Nat → Int32) (p i : Nat) : Prop := pf p = nI i ∨ ps p = nI i
/-- term node i: constructor, children, height -/
def bm_Tm (ar tc t0 t1 hX : Nat → Int32) (H : Nat → Nat) (cN i : Nat) : Prop :=
  ∃ c, c < cN ∧ tc i = nI c ∧ hX i = nI (H i) ∧ 1 ≤ H i ∧ H i ≤ i + 1 ∧
    ((ar c = 0 ∧ t0 i = -1 ∧ t1 i = -1 ∧ H i = 1) ∨
     (∃ j, ar c = 1 ∧ t1 i = -1 ∧ j < i ∧ t0 i = nI j ∧ H i = H j + 1) ∨
     (∃ j k, ar c = 2 ∧ j < i ∧ k < i ∧ t0 i = nI j ∧ t1 i = nI k ∧ H i = (if H j < H k then H k else H j) + 1))
/-- what the fit v of node p at term t must be, by the table so far -/
def bm_NF (kd pl pf ps tc t0 t1 fi : Nat → Int32) (p t : Nat) (v : Int32) : Prop :=
  (kd p = 0 → v = 1) ∧
  (kd p = 1 → v = fi ((pf p).toNatClampNeg * 64 + t)) ∧
  (kd p = 2 → (v = 1 ↔ pl p = tc t ∧ (pf p = -1 ∨ fi ((pf p).toNatClampNeg * 64 + (t0 t).toNatClampNeg) = 1) ∧ (ps p = -1 ∨ fi ((ps p).toNatClampNeg * 64 + (t1 t).toNatClampNeg) = 1))) ∧
  (kd p = 3 → (v = 1 ↔ fi ((pf p).toNatClampNeg * 64 + t) = 1 ∨ fi ((ps p).toNatClampNeg * 64 + t) = 1))
def bm_Fe (kd pl pf ps tc t0 t1 fi : Nat → Int32) (p t : Nat) : Prop := bm_NF kd pl pf ps tc t0 t1 fi p t (fi (p * 64 + t))
def bm_szc (sz : Nat → Nat) (x : Int32) : Nat := if x = -1 then 0 else sz x.toNatClampNeg
def bm_Sz (pf ps : Nat → Int32) (sz : Nat → Nat) (p : Nat) : Prop := sz p = 1 + bm_szc sz (pf p) + bm_szc sz (ps p)
def bm_sum (us : Nat → Int32) (sz : Nat → Nat) : Nat → Nat
  | 0 => 0
  | n + 1 => bm_sum us sz n + (if us n = 0 then sz n else 0)
def bm_mark (us : Nat → Int32) (f : Int32) : Nat → Int32 := if f = -1 then us else upd us f.toNatClampNeg 1
theorem bm_mark_n {us : Nat → Int32} : bm_mark us (-1) = us := if_pos rfl
theorem bm_mark_s {us : Nat → Int32} {q : Nat} (h : q < 2 ^ 31) : bm_mark us (nI q) = upd us q 1 := by
  unfold bm_mark
  rw [if_neg (bm_ne1 h), nI_clamp h]
theorem bm_szc_n {sz : Nat → Nat} : bm_szc sz (-1) = 0 := if_pos rfl
theorem bm_szc_s {sz : Nat → Nat} {q : Nat} (h : q < 2 ^ 31) : bm_szc sz (nI q) = sz q := by
  unfold bm_szc
  rw [if_neg (bm_ne1 h), nI_clamp h]
theorem bm_sum_out {us : Nat → Int32} {sz : Nat → Nat} {q : Nat} {v : Int32} : ∀ n, n ≤ q → bm_sum (upd us q v) sz n = bm_sum us sz n := by
  intro n
  induction n with
  | zero => intro _; rfl
  | succ n ih =>
    intro h
    show bm_sum (upd us q v) sz n + (if upd us q v n = 0 then sz n else 0) = bm_sum us sz n + (if us n = 0 then sz n else 0)
    rw [ih (by omega), pk_un (by omega)]
theorem bm_sum_sz {us : Nat → Int32} {sz sz' : Nat → Nat} : ∀ n, (∀ p, p < n → sz' p = sz p) → bm_sum us sz' n = bm_sum us sz n := by
  intro n
  induction n with
  | zero => intro _; rfl
  | succ n ih =>
    intro h
    show bm_sum us sz' n + (if us n = 0 then sz' n else 0) = bm_sum us sz n + (if us n = 0 then sz n else 0)
    rw [ih (fun p hp => h p (by omega)), h n (by omega)]
theorem bm_sum_use {us : Nat → Int32} {sz : Nat → Nat} {q : Nat} (h0 : us q = 0) : ∀ n, q < n → bm_sum (upd us q 1) sz n + sz q = bm_sum us sz n := by
  intro n
  induction n with
  | zero => intro h; omega
  | succ n ih =>
    intro h
    show bm_sum (upd us q 1) sz n + (if upd us q 1 n = 0 then sz n else 0) + sz q = bm_sum us sz n + (if us n = 0 then sz n else 0)
    by_cases e : n = q
    · subst e
      rw [bm_sum_out n (Nat.le_refl n), pk_us, if_neg bm_n10, if_pos h0]
      omega
    · rw [pk_un e, ← ih (by omega)]
      omega
theorem bm_sum_ge {us : Nat → Int32} {sz : Nat → Nat} {q n : Nat} (h0 : us q = 0) (h : q < n) : sz q ≤ bm_sum us sz n := by
  have := bm_sum_use (sz := sz) h0 n h
  omega
theorem bm_sum_le {us : Nat → Int32} {sz : Nat → Nat} {q n : Nat} (h0 : us q = 0) (h : q < n) : bm_sum (upd us q 1) sz n ≤ bm_sum us sz n := by
  have := bm_sum_use (sz := sz) h0 n h
  omega
/-- a child that may be taken: none, or a free node -/
def bm_Fr (us : Nat → Int32) (n : Nat) (f : Int32) : Prop := f = -1 ∨ ∃ q, q < n ∧ f = nI q ∧ us q = 0
theorem bm_sum_mark {us : Nat → Int32} {sz : Nat → Nat} {n : Nat} {f : Int32} (hn : n ≤ 64) (h : bm_Fr us n f) : bm_sum (bm_mark us f) sz n + bm_szc sz f = bm_sum us sz n := by
  rcases h with rfl | ⟨q, hq, rfl, h0⟩
  · rw [bm_mark_n, bm_szc_n]
    rfl
  · rw [bm_mark_s (by omega), bm_szc_s (by omega)]
    exact bm_sum_use h0 n hq
theorem bm_mark_o {us : Nat → Int32} {n i : Nat} {f : Int32} (hn : n ≤ 64) (h : bm_Fr us n f) (hi : ¬ f = nI i) : bm_mark us f i = us i := by
  rcases h with rfl | ⟨q, hq, rfl, h0⟩
  · rw [bm_mark_n]
  · rw [bm_mark_s (by omega)]
    exact pk_un (fun e => hi (by rw [e]))
theorem bm_mark_1 {us : Nat → Int32} {i : Nat} {f : Int32} (h : us i = 1) : bm_mark us f i = 1 := by
  unfold bm_mark
  by_cases h1 : f = -1
  · rw [if_pos h1]
    exact h
  · rw [if_neg h1]
    by_cases h2 : i = f.toNatClampNeg
    · rw [h2, pk_us]
    · rw [pk_un h2]
      exact h
theorem bm_mark_i {us : Nat → Int32} {q : Nat} (h : q < 2 ^ 31) : bm_mark us (nI q) q = 1 := by
  rw [bm_mark_s h, pk_us]
theorem bm_mark_01 {us : Nat → Int32} {f : Int32} (h : ∀ p, us p = 0 ∨ us p = 1) : ∀ p, bm_mark us f p = 0 ∨ bm_mark us f p = 1 := by
  intro p
  unfold bm_mark
  by_cases h1 : f = -1
  · rw [if_pos h1]
    exact h p
  · rw [if_neg h1]
    by_cases h2 : p = f.toNatClampNeg
    · rw [h2, pk_us]
      exact Or.inr rfl
    · rw [pk_un h2]
      exact h p
/-- the patterns' invariant -/
def bm_IP (ar kd pl pf ps pA pB pC us : Nat → Int32) (sz : Nat → Nat) (cN pN : Nat) : Prop :=
  pN ≤ 64 ∧ (∀ p, p < pN → bm_Nd ar kd pl pf ps pA pB pC cN p) ∧ (∀ p, p < pN → bm_Sz pf ps sz p) ∧
  (∀ p p' i, p < pN → p' < pN → i < 64 → bm_Ch pf ps p i → bm_Ch pf ps p' i → p = p') ∧
  (∀ p i, p < pN → i < 64 → bm_Ch pf ps p i → us i = 1) ∧
  (∀ p, us p = 0 ∨ us p = 1) ∧ bm_sum us sz pN ≤ pN
theorem bm_Nd_c {ar kd pl pf ps pA pB pC kd' pl' pf' ps' pA' pB' pC' : Nat → Int32} {cN p : Nat} (h : bm_Nd ar kd pl pf ps pA pB pC cN p)
    (h1 : kd' p = kd p) (h2 : pl' p = pl p) (h3 : pf' p = pf p) (h4 : ps' p = ps p) (h5 : pA' p = pA p) (h6 : pB' p = pB p) (h7 : pC' p = pC p) : bm_Nd ar kd' pl' pf' ps' pA' pB' pC' cN p := by
  unfold bm_Nd at h ⊢
  rw [h1, h2, h3, h4, h5, h6, h7]
  exact h
theorem bm_Nd_lt {ar kd pl pf ps pA pB pC : Nat → Int32} {cN p i : Nat} (h : bm_Nd ar kd pl pf ps pA pB pC cN p) (hp : p < 2 ^ 31) (hi : i < 2 ^ 31) (hc : bm_Ch pf ps p i) : i < p := by
  have n1 : ¬ (-1 : Int32) = nI i := bm_ne1' hi
  rcases h with ⟨_, e1, e2⟩ | ⟨x, q, _, _, hq, _, e1, e2, _⟩ | ⟨c, _, _, _, _, e1, e2, _⟩ | ⟨c, q, _, _, _, hq, _, e1, e2, _⟩ | ⟨c, q, r, _, _, _, hq, hr, _, _, e1, e2, _⟩ | ⟨q, r, _, hq, hr, _, e1, e2, _⟩ <;>
    rcases hc with hc | hc <;> (first | rw [e1] at hc | rw [e2] at hc) <;> first | exact absurd hc n1 | (have := bm_im hc (by omega) hi; omega)
theorem bm_szc_u {sz : Nat → Nat} {us : Nat → Int32} {n v : Nat} {f : Int32} (hn : n ≤ 64) (h : bm_Fr us n f) : bm_szc (bm_un sz n v) f = bm_szc sz f := by
  rcases h with rfl | ⟨q, hq, rfl, _⟩
  · rw [bm_szc_n, bm_szc_n]
  · rw [bm_szc_s (by omega), bm_szc_s (by omega), bm_un_n (by omega)]
theorem bm_Nd_k {ar kd pl pf ps pA pB pC : Nat → Int32} {cN p : Nat} (h : bm_Nd ar kd pl pf ps pA pB pC cN p) : (pf p = -1 ∨ ∃ q, q < p ∧ pf p = nI q) ∧ (ps p = -1 ∨ ∃ q, q < p ∧ ps p = nI q) := by
  rcases h with ⟨_, e1, e2⟩ | ⟨x, q, _, _, hq, _, e1, e2, _⟩ | ⟨c, _, _, _, _, e1, e2, _⟩ | ⟨c, q, _, _, _, hq, _, e1, e2, _⟩ | ⟨c, q, r, _, _, _, hq, hr, _, _, e1, e2, _⟩ | ⟨q, r, _, hq, hr, _, e1, e2, _⟩
  · exact ⟨Or.inl e1, Or.inl e2⟩
  · exact ⟨Or.inr ⟨q, hq, e1⟩, Or.inl e2⟩
  · exact ⟨Or.inl e1, Or.inl e2⟩
  · exact ⟨Or.inr ⟨q, hq, e1⟩, Or.inl e2⟩
  · exact ⟨Or.inr ⟨q, hq, e1⟩, Or.inr ⟨r, hr, e2⟩⟩
  · exact ⟨Or.inr ⟨q, hq, e1⟩, Or.inr ⟨r, hr, e2⟩⟩
theorem bm_szc_k {sz : Nat → Nat} {n v p : Nat} {x : Int32} (hn : n ≤ 64) (hp : p < n) (h : x = -1 ∨ ∃ q, q < p ∧ x = nI q) : bm_szc (bm_un sz n v) x = bm_szc sz x := by
  rcases h with rfl | ⟨q, hq, rfl⟩
  · rw [bm_szc_n, bm_szc_n]
  · rw [bm_szc_s (by omega), bm_szc_s (by omega), bm_un_n (by omega)]
theorem bm_Fr_i {us : Nat → Int32} {n i : Nat} {f : Int32} (hn : n ≤ 64) (hi : i < 64) (h : bm_Fr us n f) (e : f = nI i) : us i = 0 ∧ i < n := by
  rcases h with rfl | ⟨q, hq, rfl, h0⟩
  · exact absurd e (bm_ne1' (by omega))
  · have := bm_im e (by omega) (by omega)
    subst this
    exact ⟨h0, hq⟩
theorem bm_IP_new {ar kd pl pf ps pA pB pC us : Nat → Int32} {sz : Nat → Nat} {cN pN : Nat} (h : bm_IP ar kd pl pf ps pA pB pC us sz cN pN) (hN : pN < 64) (k a f s A B C : Int32)
    (hf : bm_Fr us pN f) (hs : bm_Fr us pN s) (hfs : f = -1 ∨ s = -1 ∨ f ≠ s)
    (hnd : bm_Nd ar (upd kd pN k) (upd pl pN a) (upd pf pN f) (upd ps pN s) (upd pA pN A) (upd pB pN B) (upd pC pN C) cN pN) :
    bm_IP ar (upd kd pN k) (upd pl pN a) (upd pf pN f) (upd ps pN s) (upd pA pN A) (upd pB pN B) (upd pC pN C) (bm_mark (bm_mark (upd us pN 0) f) s) (bm_un sz pN (1 + bm_szc sz f + bm_szc sz s)) cN (pN + 1) := by
  obtain ⟨_, hNd, hSz, hUq, hUs, h01, hSum⟩ := h
  have hf0 : bm_Fr (upd us pN 0) pN f := by
    rcases hf with e | ⟨q, hq, e, h0⟩
    · exact Or.inl e
    · exact Or.inr ⟨q, hq, e, by rw [pk_un (by omega)]; exact h0⟩
  have hs0 : bm_Fr (upd us pN 0) pN s := by
    rcases hs with e | ⟨q, hq, e, h0⟩
    · exact Or.inl e
    · exact Or.inr ⟨q, hq, e, by rw [pk_un (by omega)]; exact h0⟩
  have hs1 : bm_Fr (bm_mark (upd us pN 0) f) pN s := by
    rcases hs0 with e | ⟨q, hq, e, h0⟩
    · exact Or.inl e
    · refine Or.inr ⟨q, hq, e, ?_⟩
      rw [bm_mark_o (by omega) hf0 ?_]
      · exact h0
      · intro z
        rcases hfs with e1 | e1 | e1
        · rw [e1] at z
          exact bm_ne1' (by omega) z
        · rw [e] at e1
          exact bm_ne1 (by omega) e1
        · exact e1 (z.trans e.symm)
  have old : ∀ {p i : Nat}, p < pN → i < 64 → bm_Ch (upd pf pN f) (upd ps pN s) p i → bm_Ch pf ps p i := by
    intro p i hp hi hc
    unfold bm_Ch at hc ⊢
    rw [pk_un (by omega), pk_un (by omega)] at hc
    exact hc
  have new : ∀ {i : Nat}, i < 64 → bm_Ch (upd pf pN f) (upd ps pN s) pN i → us i = 0 := by
    intro i hi hc
    unfold bm_Ch at hc
    rw [pk_us, pk_us] at hc
    rcases hc with e | e
    · exact (bm_Fr_i (by omega) hi hf e).1
    · exact (bm_Fr_i (by omega) hi hs e).1
  refine ⟨by omega, ?_, ?_, ?_, ?_, ?_, ?_⟩
  · intro p hp
    by_cases e : p = pN
    · rw [e]
      exact hnd
    · exact bm_Nd_c (hNd p (by omega)) (pk_un e) (pk_un e) (pk_un e) (pk_un e) (pk_un e) (pk_un e) (pk_un e)
  · intro p hp
    unfold bm_Sz
    by_cases e : p = pN
    · subst e
      rw [bm_un_s, pk_us, pk_us, bm_szc_u (by omega) hf, bm_szc_u (by omega) hs]
    · have hk := bm_Nd_k (hNd p (by omega))
      rw [bm_un_n e, pk_un e, pk_un e, bm_szc_k (by omega) (by omega) hk.1, bm_szc_k (by omega) (by omega) hk.2]
      exact hSz p (by omega)
  · intro p p' i hp hp' hi hc hc'
    by_cases e : p = pN
    · subst e
      by_cases e' : p' = p
      · exact e'.symm
      · have z0 := new hi hc
        have z1 := hUs p' i (by omega) hi (old (by omega) hi hc')
        rw [z0] at z1
        exact absurd z1 bm_n01
    · by_cases e' : p' = pN
      · subst e'
        have z0 := new hi hc'
        have z1 := hUs p i (by omega) hi (old (by omega) hi hc)
        rw [z0] at z1
        exact absurd z1 bm_n01
      · exact hUq p p' i (by omega) (by omega) hi (old (by omega) hi hc) (old (by omega) hi hc')
  · intro p i hp hi hc
    by_cases e : p = pN
    · subst e
      unfold bm_Ch at hc
      rw [pk_us, pk_us] at hc
      rcases hc with e | e
      · apply bm_mark_1
        rw [e]
        exact bm_mark_i (by omega)
      · rw [e]
        exact bm_mark_i (by omega)
    · have hc2 := old (by omega) hi hc
      have hl := bm_Nd_lt (hNd p (by omega)) (by omega) (by omega) hc2
      apply bm_mark_1
      apply bm_mark_1
      rw [pk_un (by omega)]
      exact hUs p i (by omega) hi hc2
  · apply bm_mark_01
    apply bm_mark_01
    intro p
    by_cases e : p = pN
    · rw [e, pk_us]
      exact Or.inl rfl
    · rw [pk_un e]
      exact h01 p
  · have e1 := bm_sum_mark (sz := sz) (by omega) hs1
    have e2 := bm_sum_mark (sz := sz) (by omega) hf0
    have e3 : bm_sum (upd us pN 0) sz pN = bm_sum us sz pN := bm_sum_out pN (Nat.le_refl _)
    have e4 : bm_sum (bm_mark (bm_mark (upd us pN 0) f) s) (bm_un sz pN (1 + bm_szc sz f + bm_szc sz s)) pN = bm_sum (bm_mark (bm_mark (upd us pN 0) f) s) sz pN := bm_sum_sz pN (fun p hp => bm_un_n (by omega))
    show bm_sum _ _ pN + (if _ = 0 then bm_un sz pN (1 + bm_szc sz f + bm_szc sz s) pN else 0) ≤ pN + 1
    rw [e4, bm_un_s]
    split <;> omega
/-- a free node is taken (by a row) -/
theorem bm_IP_take {ar kd pl pf ps pA pB pC us : Nat → Int32} {sz : Nat → Nat} {cN pN q : Nat} (h : bm_IP ar kd pl pf ps pA pB pC us sz cN pN) (hq : q < pN) (h0 : us q = 0) :
    bm_IP ar kd pl pf ps pA pB pC (upd us q 1) sz cN pN ∧ sz q ≤ 64 := by
  obtain ⟨hN, hNd, hSz, hUq, hUs, h01, hSum⟩ := h
  refine ⟨⟨hN, hNd, hSz, hUq, ?_, ?_, ?_⟩, ?_⟩
  · intro p i hp hi hc
    by_cases e : i = q
    · rw [e, pk_us]
    · rw [pk_un e]
      exact hUs p i hp hi hc
  · intro p
    by_cases e : p = q
    · rw [e, pk_us]
      exact Or.inr rfl
    · rw [pk_un e]
      exact h01 p
  · have := bm_sum_le (sz := sz) h0 hq
    omega
  · have := bm_sum_ge (sz := sz) h0 hq
    omega
theorem bm_IP_0 {ar kd pl pf ps pA pB pC us : Nat → Int32} {sz : Nat → Nat} {cN : Nat} (h01 : ∀ p, us p = 0 ∨ us p = 1) : bm_IP ar kd pl pf ps pA pB pC us sz cN 0 :=
  ⟨by omega, fun _ h => absurd h (Nat.not_lt_zero _), fun _ h => absurd h (Nat.not_lt_zero _), fun _ _ _ h => absurd h (Nat.not_lt_zero _), fun _ _ h => absurd h (Nat.not_lt_zero _), h01, Nat.le_refl 0⟩
