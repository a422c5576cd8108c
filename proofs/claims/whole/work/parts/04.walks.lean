/-! the walks of a match, purely: the places of the reference, and the two stacks -/
/-- the places of node q's children, where q is at term u -/
def bm_Cd (kd pl pf ps tc t0 t1 pa : Nat → Int32) (q u : Nat) : Prop :=
  (kd q = 1 → pa (pf q).toNatClampNeg = nI u) ∧ (kd q = 3 → pa (pf q).toNatClampNeg = nI u ∧ pa (ps q).toNatClampNeg = nI u) ∧
  (kd q = 2 → pl q = tc u → (pf q = -1 ∨ pa (pf q).toNatClampNeg = t0 u) ∧ (ps q = -1 ∨ pa (ps q).toNatClampNeg = t1 u))
def bm_I1 (kd pl pf ps tc t0 t1 pa : Nat → Int32) (tN root i : Nat) : Prop := ∀ q, i ≤ q → q ≤ root → ∀ u, u < tN → pa q = nI u → bm_Cd kd pl pf ps tc t0 t1 pa q u
def bm_V (pa : Nat → Int32) (tN : Nat) : Prop := ∀ i, i < 64 → pa i = -1 ∨ ∃ u, u < tN ∧ pa i = nI u
def bm_I2 (pa ok fi : Nat → Int32) (tN i : Nat) : Prop := (∀ j, j < 64 → ok j = 0 ∨ ok j = 1) ∧ ∀ q, q < i → ∀ u, u < tN → pa q = nI u → ok q = fi (q * 64 + u)
def bm_MP (kd pl pf ps tc t0 t1 fi pa ok : Nat → Int32) (tN root t : Nat) : Prop := pa root = nI t ∧ bm_I1 kd pl pf ps tc t0 t1 pa tN root 0 ∧ bm_I2 pa ok fi tN (root + 1)
section
variable {ar kd pl pf ps pA pB pC us tc t0 t1 hX fi pa pa' ok : Nat → Int32} {H sz : Nat → Nat} {cN pN tN root : Nat}
theorem bm_I1_step (hP : bm_IP ar kd pl pf ps pA pB pC us sz cN pN) {q : Nat} (hr : root < pN) (hq : q ≤ root) (h : bm_I1 kd pl pf ps tc t0 t1 pa tN root (q + 1))
    (hag : ∀ i, i < 64 → ¬ bm_Ch pf ps q i → pa' i = pa i) (hn : ∀ u, u < tN → pa q = nI u → bm_Cd kd pl pf ps tc t0 t1 pa' q u) : bm_I1 kd pl pf ps tc t0 t1 pa' tN root q := by
  obtain ⟨hP6, hNd, _, hUq, _, _, _⟩ := hP
  intro q' hq' hr' u hu e
  have nc : ¬ bm_Ch pf ps q q' := fun z => by
    have := bm_Nd_lt (hNd q (by omega)) (by omega) (by omega) z
    omega
  rw [hag q' (by omega) nc] at e
  by_cases e2 : q' = q
  · rw [e2] at e ⊢
    exact hn u hu e
  · obtain ⟨c1, c3, c2⟩ := h q' (by omega) hr' u hu e
    have K : ∀ i, i < 64 → bm_Ch pf ps q' i → pa' i = pa i := fun i hi hc => hag i hi (fun z => e2 (hUq q' q i (by omega) (by omega) hi hc z))
    rcases hNd q' (by omega) with ⟨ek, e1, e2⟩ | ⟨y, a, ek, _, ha, _, e1, e2, _⟩ | ⟨c, ek, _, _, _, e1, e2, _⟩ | ⟨c, a, ek, _, _, ha, _, e1, e2, _⟩ | ⟨c, a, b, ek, _, _, ha, hb, _, _, e1, e2, _⟩ | ⟨a, b, ek, ha, hb, _, e1, e2, _⟩
    · refine ⟨fun z => ?_, fun z => ?_, fun z => ?_⟩ <;> (rw [ek] at z; exact absurd z (by decide))
    · refine ⟨fun _ => ?_, fun z => ?_, fun z => ?_⟩
      · have c := c1 ek
        rw [e1, nI_clamp (by omega)] at c ⊢
        rw [K a (by omega) (Or.inl e1)]
        exact c
      · rw [ek] at z; exact absurd z (by decide)
      · rw [ek] at z; exact absurd z (by decide)
    · refine ⟨fun z => ?_, fun z => ?_, fun _ _ => ⟨Or.inl e1, Or.inl e2⟩⟩ <;> (rw [ek] at z; exact absurd z (by decide))
    · refine ⟨fun z => ?_, fun z => ?_, fun _ z => ⟨Or.inr ?_, Or.inl e2⟩⟩
      · rw [ek] at z; exact absurd z (by decide)
      · rw [ek] at z; exact absurd z (by decide)
      · have c := (c2 ek z).1.resolve_left (by rw [e1]; exact bm_ne1 (by omega))
        rw [e1, nI_clamp (by omega)] at c ⊢
        rw [K a (by omega) (Or.inl e1)]
        exact c
    · refine ⟨fun z => ?_, fun z => ?_, fun _ z => ⟨Or.inr ?_, Or.inr ?_⟩⟩
      · rw [ek] at z; exact absurd z (by decide)
      · rw [ek] at z; exact absurd z (by decide)
      · have c := (c2 ek z).1.resolve_left (by rw [e1]; exact bm_ne1 (by omega))
        rw [e1, nI_clamp (by omega)] at c ⊢
        rw [K a (by omega) (Or.inl e1)]
        exact c
      · have c := (c2 ek z).2.resolve_left (by rw [e2]; exact bm_ne1 (by omega))
        rw [e2, nI_clamp (by omega)] at c ⊢
        rw [K b (by omega) (Or.inr e2)]
        exact c
    · refine ⟨fun z => ?_, fun _ => ?_, fun z => ?_⟩
      · rw [ek] at z; exact absurd z (by decide)
      · have c := c3 ek
        rw [e1, e2, nI_clamp (by omega), nI_clamp (by omega)] at c ⊢
        rw [K a (by omega) (Or.inl e1), K b (by omega) (Or.inr e2)]
        exact c
      · rw [ek] at z; exact absurd z (by decide)
theorem bm_V_u {i : Nat} {v : Int32} (h : bm_V pa tN) (hv : v = -1 ∨ ∃ u, u < tN ∧ v = nI u) : bm_V (upd pa i v) tN := by
  intro j hj
  by_cases e : j = i
  · rw [e, pk_us]
    exact hv
  · rw [pk_un e]
    exact h j hj
/-- nothing is written at q -/
theorem bm_I1_same (hP : bm_IP ar kd pl pf ps pA pB pC us sz cN pN) {q : Nat} (hr : root < pN) (hq : q ≤ root) (h : bm_I1 kd pl pf ps tc t0 t1 pa tN root (q + 1))
    (hn : ∀ u, u < tN → pa q = nI u → bm_Cd kd pl pf ps tc t0 t1 pa q u) : bm_I1 kd pl pf ps tc t0 t1 pa tN root q :=
  bm_I1_step hP hr hq h (fun _ _ _ => rfl) hn
theorem bm_Cd_0 {q u : Nat} (ek : kd q = 0) : bm_Cd kd pl pf ps tc t0 t1 pa q u := by
  refine ⟨fun z => ?_, fun z => ?_, fun z => ?_⟩ <;> (rw [ek] at z; exact absurd z (by decide))
theorem bm_Cd_1 {q u a : Nat} (ek : kd q = 1) (e1 : pf q = nI a) (ha : a < 2 ^ 31) (h : pa a = nI u) : bm_Cd kd pl pf ps tc t0 t1 pa q u := by
  refine ⟨fun _ => ?_, fun z => ?_, fun z => ?_⟩
  · rw [e1, nI_clamp ha]
    exact h
  · rw [ek] at z; exact absurd z (by decide)
  · rw [ek] at z; exact absurd z (by decide)
theorem bm_Cd_3 {q u a b : Nat} (ek : kd q = 3) (e1 : pf q = nI a) (ha : a < 2 ^ 31) (e2 : ps q = nI b) (hb : b < 2 ^ 31) (h : pa a = nI u) (h' : pa b = nI u) : bm_Cd kd pl pf ps tc t0 t1 pa q u := by
  refine ⟨fun z => ?_, fun _ => ?_, fun z => ?_⟩
  · rw [ek] at z; exact absurd z (by decide)
  · rw [e1, e2, nI_clamp ha, nI_clamp hb]
    exact ⟨h, h'⟩
  · rw [ek] at z; exact absurd z (by decide)
theorem bm_Cd_2 {q u : Nat} (ek : kd q = 2) (h : pl q = tc u → (pf q = -1 ∨ pa (pf q).toNatClampNeg = t0 u) ∧ (ps q = -1 ∨ pa (ps q).toNatClampNeg = t1 u)) : bm_Cd kd pl pf ps tc t0 t1 pa q u := by
  refine ⟨fun z => ?_, fun z => ?_, fun _ => h⟩
  · rw [ek] at z; exact absurd z (by decide)
  · rw [ek] at z; exact absurd z (by decide)
theorem bm_u1 {q u u' : Nat} (hT : tN ≤ 64) (h : u < tN) (h' : u' < tN) (e : pa q = nI u) (e' : pa q = nI u') : u' = u := bm_im (e'.symm.trans e) (by omega) (by omega)
theorem bm_I1_as (hP : bm_IP ar kd pl pf ps pA pB pC us sz cN pN) {q u a : Nat} (hT : tN ≤ 64) (hr : root < pN) (hq : q ≤ root) (h : bm_I1 kd pl pf ps tc t0 t1 pa tN root (q + 1))
    (hu : u < tN) (e : pa q = nI u) (ek : kd q = 1) (e1 : pf q = nI a) (ha : a < q) : bm_I1 kd pl pf ps tc t0 t1 (upd pa a (nI u)) tN root q := by
  have h6 := hP.1
  refine bm_I1_step hP hr hq h (fun i _ hc => pk_un (fun z => hc (Or.inl (by rw [z]; exact e1)))) (fun u' hu' e' => ?_)
  have := bm_u1 hT hu hu' e e'
  subst this
  exact bm_Cd_1 ek e1 (by omega) pk_us
theorem bm_I1_or (hP : bm_IP ar kd pl pf ps pA pB pC us sz cN pN) {q u a b : Nat} (hT : tN ≤ 64) (hr : root < pN) (hq : q ≤ root) (h : bm_I1 kd pl pf ps tc t0 t1 pa tN root (q + 1))
    (hu : u < tN) (e : pa q = nI u) (ek : kd q = 3) (e1 : pf q = nI a) (ha : a < q) (e2 : ps q = nI b) (hb : b < q) : bm_I1 kd pl pf ps tc t0 t1 (upd (upd pa a (nI u)) b (nI u)) tN root q := by
  have h6 := hP.1
  refine bm_I1_step hP hr hq h (fun i _ hc => ?_) (fun u' hu' e' => ?_)
  · rw [pk_un (fun z => hc (Or.inr (by rw [z]; exact e2))), pk_un (fun z => hc (Or.inl (by rw [z]; exact e1)))]
  · have := bm_u1 hT hu hu' e e'
    subst this
    refine bm_Cd_3 ek e1 (by omega) e2 (by omega) ?_ pk_us
    by_cases z : a = b
    · rw [z, pk_us]
    · rw [pk_un z, pk_us]
theorem bm_I1_c1 (hP : bm_IP ar kd pl pf ps pA pB pC us sz cN pN) {q u a : Nat} (hT : tN ≤ 64) (hr : root < pN) (hq : q ≤ root) (h : bm_I1 kd pl pf ps tc t0 t1 pa tN root (q + 1))
    (hu : u < tN) (e : pa q = nI u) (ek : kd q = 2) (e1 : pf q = nI a) (ha : a < q) (e2 : ps q = -1) : bm_I1 kd pl pf ps tc t0 t1 (upd pa a (t0 u)) tN root q := by
  have h6 := hP.1
  refine bm_I1_step hP hr hq h (fun i _ hc => pk_un (fun z => hc (Or.inl (by rw [z]; exact e1)))) (fun u' hu' e' => ?_)
  have := bm_u1 hT hu hu' e e'
  subst this
  refine bm_Cd_2 ek (fun _ => ⟨Or.inr ?_, Or.inl e2⟩)
  rw [e1, nI_clamp (by omega), pk_us]
theorem bm_I1_c2 (hP : bm_IP ar kd pl pf ps pA pB pC us sz cN pN) {q u a b : Nat} (hT : tN ≤ 64) (hr : root < pN) (hq : q ≤ root) (h : bm_I1 kd pl pf ps tc t0 t1 pa tN root (q + 1))
    (hu : u < tN) (e : pa q = nI u) (ek : kd q = 2) (e1 : pf q = nI a) (ha : a < q) (e2 : ps q = nI b) (hb : b < q) (hab : a ≠ b) : bm_I1 kd pl pf ps tc t0 t1 (upd (upd pa a (t0 u)) b (t1 u)) tN root q := by
  have h6 := hP.1
  refine bm_I1_step hP hr hq h (fun i _ hc => ?_) (fun u' hu' e' => ?_)
  · rw [pk_un (fun z => hc (Or.inr (by rw [z]; exact e2))), pk_un (fun z => hc (Or.inl (by rw [z]; exact e1)))]
  · have := bm_u1 hT hu hu' e e'
    subst this
    refine bm_Cd_2 ek (fun _ => ⟨Or.inr ?_, Or.inr ?_⟩)
    · rw [e1, nI_clamp (by omega), pk_un hab, pk_us]
    · rw [e2, nI_clamp (by omega), pk_us]
theorem bm_I2_n {q : Nat} (h : bm_I2 pa ok fi tN q) (hT : tN ≤ 64) (e : pa q = -1) : bm_I2 pa ok fi tN (q + 1) := by
  refine ⟨h.1, fun q' hq' u hu e' => ?_⟩
  by_cases z : q' = q
  · rw [z, e] at e'
    exact absurd e' (bm_ne1' (by omega))
  · exact h.2 q' (by omega) u hu e'
theorem bm_I2_s {q u : Nat} {v : Int32} (h : bm_I2 pa ok fi tN q) (hT : tN ≤ 64) (hu : u < tN) (e : pa q = nI u) (hv : v = fi (q * 64 + u)) (h01 : ∀ i, fi i = 0 ∨ fi i = 1) : bm_I2 pa (upd ok q v) fi tN (q + 1) := by
  refine ⟨fun j hj => ?_, fun q' hq' u' hu' e' => ?_⟩
  · by_cases z : j = q
    · rw [z, pk_us, hv]
      exact h01 _
    · rw [pk_un z]
      exact h.1 j hj
  · by_cases z : q' = q
    · subst z
      have := bm_u1 hT hu hu' e e'
      subst this
      rw [pk_us]
      exact hv
    · rw [pk_un z]
      exact h.2 q' (by omega) u' hu' e'
end
/-- the component's stack: a list of nodes with their terms -/
def bm_SX (pp pt : Nat → Int32) : List (Nat × Nat) → Nat → Prop
  | [], k => k = 0
  | e :: l, k => ∃ j, k = j + 1 ∧ pp j = nI e.1 ∧ pt j = nI e.2 ∧ bm_SX pp pt l j
theorem bm_SX_c {pp pt pp' pt' : Nat → Int32} : ∀ (l : List (Nat × Nat)) (k : Nat), bm_SX pp pt l k → (∀ i, i < k → pp' i = pp i) → (∀ i, i < k → pt' i = pt i) → bm_SX pp' pt' l k
  | [], _, h, _, _ => h
  | _ :: l, _, ⟨j, hj, e1, e2, h⟩, h1, h2 => ⟨j, hj, (h1 j (by omega)).trans e1, (h2 j (by omega)).trans e2, bm_SX_c l j h (fun i hi => h1 i (by omega)) (fun i hi => h2 i (by omega))⟩
theorem bm_SX_push {pp pt : Nat → Int32} {l : List (Nat × Nat)} {k q t : Nat} (h : bm_SX pp pt l k) : bm_SX (upd pp k (nI q)) (upd pt k (nI t)) ((q, t) :: l) (k + 1) :=
  ⟨k, rfl, pk_us, pk_us, bm_SX_c l k h (fun _ hi => pk_un (by omega)) (fun _ hi => pk_un (by omega))⟩
def bm_wX (sz : Nat → Nat) : List (Nat × Nat) → Nat
  | [] => 0
  | e :: l => sz e.1 + bm_wX sz l
def bm_RX (d : Nat → Nat → Nat → Int32) (x : Nat) : List (Nat × Nat) → Int32
  | [] => -1
  | e :: l => bm_mg (d x e.1 e.2) (bm_RX d x l)
def bm_OX (fi : Nat → Int32) (pN tN : Nat) : List (Nat × Nat) → Prop
  | [] => True
  | e :: l => (e.1 < pN ∧ e.2 < tN ∧ fi (e.1 * 64 + e.2) = 1) ∧ bm_OX fi pN tN l
theorem bm_kX {pp pt fi : Nat → Int32} {sz : Nat → Nat} {pN tN : Nat} (h1 : ∀ p, p < pN → 1 ≤ sz p) : ∀ (l : List (Nat × Nat)) (k : Nat), bm_SX pp pt l k → bm_OX fi pN tN l → k ≤ bm_wX sz l
  | [], k, h, _ => by
    have : k = 0 := h
    omega
  | e :: l, k, ⟨j, hj, _, _, h⟩, ⟨⟨hp, _, _⟩, o⟩ => by
    have := bm_kX h1 l j h o
    have := h1 e.1 hp
    show k ≤ sz e.1 + bm_wX sz l
    omega
/-- the reference's stack: nodes (0) and writes (1) -/
def bm_SY (st : Nat → Int32) : List (Nat × Nat × Nat) → Nat → Prop
  | [], k => k = 0
  | e :: l, k => ∃ j, k = j + 1 ∧ st j = nI (2 * e.2.1 + e.1) ∧ bm_SY st l j
theorem bm_SY_c {st st' : Nat → Int32} : ∀ (l : List (Nat × Nat × Nat)) (k : Nat), bm_SY st l k → (∀ i, i < k → st' i = st i) → bm_SY st' l k
  | [], _, h, _ => h
  | _ :: l, _, ⟨j, hj, e1, h⟩, h1 => ⟨j, hj, (h1 j (by omega)).trans e1, bm_SY_c l j h (fun i hi => h1 i (by omega))⟩
theorem bm_SY_push {st : Nat → Int32} {l : List (Nat × Nat × Nat)} {k : Nat} (w q t : Nat) (h : bm_SY st l k) : bm_SY (upd st k (nI (2 * q + w))) ((w, q, t) :: l) (k + 1) :=
  ⟨k, rfl, pk_us, bm_SY_c l k h (fun _ hi => pk_un (by omega))⟩
def bm_wY (sz : Nat → Nat) : List (Nat × Nat × Nat) → Nat
  | [] => 0
  | e :: l => (if e.1 = 0 then 2 * sz e.2.1 else 1) + bm_wY sz l
def bm_dY (d : Nat → Nat → Nat → Int32) (pA : Nat → Int32) (x : Nat) (e : Nat × Nat × Nat) : Int32 := if e.1 = 0 then d x e.2.1 e.2.2 else if pA e.2.1 = nI x then nI e.2.2 else -1
def bm_RY (d : Nat → Nat → Nat → Int32) (pA : Nat → Int32) (x : Nat) : List (Nat × Nat × Nat) → Int32
  | [] => -1
  | e :: l => bm_mg (bm_RY d pA x l) (bm_dY d pA x e)
def bm_OY (fi pA pa : Nat → Int32) (pN tN root : Nat) : List (Nat × Nat × Nat) → Prop
  | [] => True
  | e :: l => (e.2.1 ≤ root ∧ e.2.2 < tN ∧ pa e.2.1 = nI e.2.2 ∧ ((e.1 = 0 ∧ fi (e.2.1 * 64 + e.2.2) = 1) ∨ (e.1 = 1 ∧ ∃ y, y < 8 ∧ pA e.2.1 = nI y))) ∧ bm_OY fi pA pa pN tN root l
theorem bm_kY {st fi pA pa : Nat → Int32} {sz : Nat → Nat} {pN tN root : Nat} (hr : root < pN) (h1 : ∀ p, p < pN → 1 ≤ sz p) : ∀ (l : List (Nat × Nat × Nat)) (k : Nat), bm_SY st l k → bm_OY fi pA pa pN tN root l → k ≤ bm_wY sz l
  | [], k, h, _ => by
    have : k = 0 := h
    omega
  | e :: l, k, ⟨j, hj, _, h⟩, ⟨⟨hp, _, _, _⟩, o⟩ => by
    have := bm_kY hr h1 l j h o
    have := h1 e.2.1 (by omega)
    show k ≤ (if e.1 = 0 then 2 * sz e.2.1 else 1) + bm_wY sz l
    split <;> omega
/-- what the reference's second loop meets at node q, at term u -/
def bm_L2 (kd pA pB pC ar tc fi ok : Nat → Int32) (cN q u : Nat) : Prop :=
  (kd q = 0 ∧ fi (q * 64 + u) = 1) ∨
  (∃ a, kd q = 1 ∧ a < q ∧ pB q = nI a ∧ ok a = fi (q * 64 + u)) ∨
  (∃ c, kd q = 2 ∧ c < cN ∧ ar c = 0 ∧ pA q = nI c ∧ (tc u = nI c → fi (q * 64 + u) = 1) ∧ (¬ tc u = nI c → fi (q * 64 + u) = 0)) ∨
  (∃ c a, kd q = 2 ∧ c < cN ∧ ar c = 1 ∧ a < q ∧ pA q = nI c ∧ pB q = nI a ∧ (tc u = nI c → ok a = fi (q * 64 + u)) ∧ (¬ tc u = nI c → fi (q * 64 + u) = 0)) ∨
  (∃ c a b, kd q = 2 ∧ c < cN ∧ ar c = 2 ∧ a < q ∧ b < q ∧ pA q = nI c ∧ pB q = nI a ∧ pC q = nI b ∧ (tc u = nI c → ok a = 0 → fi (q * 64 + u) = 0) ∧ (tc u = nI c → ¬ ok a = 0 → ok b = fi (q * 64 + u)) ∧ (¬ tc u = nI c → fi (q * 64 + u) = 0)) ∨
  (∃ a b, kd q = 3 ∧ a < q ∧ b < q ∧ pA q = nI a ∧ pB q = nI b ∧ (¬ ok a = 0 → fi (q * 64 + u) = 1) ∧ (ok a = 0 → ok b = fi (q * 64 + u)))
theorem bm_01e {x y : Int32} (hx : x = 0 ∨ x = 1) (hy : y = 0 ∨ y = 1) (h : x = 1 ↔ y = 1) : x = y := by
  rcases hx with rfl | rfl
  · rcases hy with rfl | rfl
    · rfl
    · exact absurd (h.mpr rfl) bm_n01
  · exact (h.mp rfl).symm
section
variable {ar kd pl pf ps pA pB pC us tc t0 t1 hX fi pa pa' ok : Nat → Int32} {H sz : Nat → Nat} {cN pN tN root : Nat}
theorem bm_L2_of (hcN : cN ≤ 8) (hP : bm_IP ar kd pl pf ps pA pB pC us sz cN pN) (hT : bm_IT ar tc t0 t1 hX H cN tN) (hF : bm_IF kd pl pf ps tc t0 t1 fi pN tN)
    {q u : Nat} (hq : q < pN) (hu : u < tN) (hC : bm_Cd kd pl pf ps tc t0 t1 pa q u) (h2 : bm_I2 pa ok fi tN q) : bm_L2 kd pA pB pC ar tc fi ok cN q u := by
  obtain ⟨hP6, hNd, _, _, _, _, _⟩ := hP
  obtain ⟨hT6, hTm⟩ := hT
  obtain ⟨h01, hFe⟩ := hF
  obtain ⟨f0, f1, f2, f3⟩ := hFe q u hq hu
  obtain ⟨c1, c3, c2⟩ := hC
  obtain ⟨o01, o⟩ := h2
  rcases hNd q hq with ⟨ek, e1, e2⟩ | ⟨y, a, ek, hy, ha, el, e1, e2, eA, eB⟩ | ⟨c, ek, hc, ea, el, e1, e2, eA⟩ | ⟨c, a, ek, hc, ea, ha, el, e1, e2, eA, eB⟩ | ⟨c, a, b, ek, hc, ea, ha, hb, _, el, e1, e2, eA, eB, eC⟩ | ⟨a, b, ek, ha, hb, _, e1, e2, eA, eB⟩
  · exact Or.inl ⟨ek, f0 ek⟩
  · have g := c1 ek
    have f := f1 ek
    rw [e1, nI_clamp (by omega)] at g f
    exact Or.inr (Or.inl ⟨a, ek, ha, eB, (o a ha u hu g).trans f.symm⟩)
  · have f := f2 ek
    rw [el] at f
    refine Or.inr (Or.inr (Or.inl ⟨c, ek, hc, ea, eA, fun z => f.mpr ⟨z.symm, Or.inl e1, Or.inl e2⟩, fun z => (h01 _).resolve_right (fun w => z (f.mp w).1.symm)⟩))
  · have f := f2 ek
    have g := c2 ek
    rw [el] at f g
    refine Or.inr (Or.inr (Or.inr (Or.inl ⟨c, a, ek, hc, ea, ha, eA, eB, fun z => ?_, fun z => (h01 _).resolve_right (fun w => z (f.mp w).1.symm)⟩)))
    have g1 := (g z.symm).1.resolve_left (by rw [e1]; exact bm_ne1 (by omega))
    obtain ⟨d, hd, td, _, _, _, hk⟩ := hTm u hu
    have := bm_ar hc hd hcN (z.symm.trans td)
    subst this
    obtain ⟨j, hj, ej⟩ : ∃ j, j < u ∧ t0 u = nI j := by
      rcases hk with ⟨w, _⟩ | ⟨j, _, _, hj, ej, _⟩ | ⟨j, k, w, _⟩
      · rw [ea] at w; exact absurd w (by decide)
      · exact ⟨j, hj, ej⟩
      · rw [ea] at w; exact absurd w (by decide)
    rw [e1, ej, nI_clamp (by omega)] at g1
    rw [o a ha j (by omega) g1]
    refine bm_01e (h01 _) (h01 _) ?_
    rw [f, e1, ej, nI_clamp (by omega), nI_clamp (by omega)]
    exact ⟨fun w => ⟨z.symm, Or.inr w, Or.inl e2⟩, fun w => w.2.1.resolve_left (bm_ne1 (by omega))⟩
  · have f := f2 ek
    have g := c2 ek
    rw [el] at f g
    have all : tc u = nI c → ∃ j k, j < tN ∧ k < tN ∧ ok a = fi (a * 64 + j) ∧ ok b = fi (b * 64 + k) ∧ (fi (q * 64 + u) = 1 ↔ fi (a * 64 + j) = 1 ∧ fi (b * 64 + k) = 1) := by
      intro z
      have g1 := (g z.symm).1.resolve_left (by rw [e1]; exact bm_ne1 (by omega))
      have g2 := (g z.symm).2.resolve_left (by rw [e2]; exact bm_ne1 (by omega))
      obtain ⟨d, hd, td, _, _, _, hk⟩ := hTm u hu
      have := bm_ar hc hd hcN (z.symm.trans td)
      subst this
      obtain ⟨j, k, hj, hk', ej, ek'⟩ : ∃ j k, j < u ∧ k < u ∧ t0 u = nI j ∧ t1 u = nI k := by
        rcases hk with ⟨w, _⟩ | ⟨j, w, _⟩ | ⟨j, k, _, hj, hk, ej, ek, _⟩
        · rw [ea] at w; exact absurd w (by decide)
        · rw [ea] at w; exact absurd w (by decide)
        · exact ⟨j, k, hj, hk, ej, ek⟩
      rw [e1, ej, nI_clamp (by omega)] at g1
      rw [e2, ek', nI_clamp (by omega)] at g2
      refine ⟨j, k, by omega, by omega, o a ha j (by omega) g1, o b hb k (by omega) g2, ?_⟩
      rw [f, e1, e2, ej, ek', nI_clamp (by omega), nI_clamp (by omega), nI_clamp (by omega), nI_clamp (by omega)]
      exact ⟨fun w => ⟨w.2.1.resolve_left (bm_ne1 (by omega)), w.2.2.resolve_left (bm_ne1 (by omega))⟩, fun w => ⟨z.symm, Or.inr w.1, Or.inr w.2⟩⟩
    refine Or.inr (Or.inr (Or.inr (Or.inr (Or.inl ⟨c, a, b, ek, hc, ea, ha, hb, eA, eB, eC, fun z w => ?_, fun z w => ?_, fun z => (h01 _).resolve_right (fun w => z (f.mp w).1.symm)⟩))))
    · obtain ⟨j, k, _, _, p1, p2, p3⟩ := all z
      refine (h01 _).resolve_right (fun v => ?_)
      have := (p3.mp v).1
      rw [← p1, w] at this
      exact bm_n01 this
    · obtain ⟨j, k, _, _, p1, p2, p3⟩ := all z
      rw [p2]
      refine bm_01e (h01 _) (h01 _) ?_
      rw [p3]
      have : fi (a * 64 + j) = 1 := by
        rw [← p1]
        exact bm_01t (o01 a (by omega)) w
      exact ⟨fun v => ⟨this, v⟩, fun v => v.2⟩
  · have f := f3 ek
    have g := c3 ek
    rw [e1, e2, nI_clamp (by omega), nI_clamp (by omega)] at f g
    have p1 := o a ha u hu g.1
    have p2 := o b hb u hu g.2
    refine Or.inr (Or.inr (Or.inr (Or.inr (Or.inr ⟨a, b, ek, ha, hb, eA, eB, fun z => f.mpr (Or.inl ?_), fun z => ?_⟩))))
    · rw [← p1]
      exact bm_01t (o01 a (by omega)) z
    · rw [p2]
      refine bm_01e (h01 _) (h01 _) ?_
      rw [f]
      exact ⟨fun w => Or.inr w, fun w => w.resolve_left (fun v => by rw [← p1, z] at v; exact bm_n01 v)⟩
/-- a step of the component's stack -/
theorem bm_bind {rb : Nat → Int32} {y t x : Nat} {s r : Int32} (hy : y < 8) (hx : x < 8) (ht : t < 64) (hr : ¬ rb y = -1) (h : bm_mg (rb x) (bm_mg (if nI y = nI x then nI t else -1) s) = r) : bm_mg (rb x) s = r := by
  by_cases z : y = x
  · subst z
    rw [bm_mg_n _ hr] at h ⊢
    exact h
  · rw [if_neg (fun w => z (bm_im w (by omega) (by omega))), bm_mg_l] at h
    exact h
theorem bm_bind' {rb : Nat → Int32} {y t x : Nat} {s r : Int32} (hy : y < 8) (hx : x < 8) (ht : t < 64) (hr : rb y = -1) (h : bm_mg (rb x) (bm_mg (if nI y = nI x then nI t else -1) s) = r) : bm_mg (upd rb y (nI t) x) s = r := by
  by_cases z : y = x
  · subst z
    rw [hr, bm_mg_l, if_pos rfl] at h
    rw [pk_us]
    exact h
  · rw [if_neg (fun w => z (bm_im w (by omega) (by omega))), bm_mg_l] at h
    rw [pk_un (fun w => z w.symm)]
    exact h
theorem bm_bindY {rb : Nat → Int32} {y t x : Nat} {s r : Int32} (hy : y < 8) (hx : x < 8) (ht : t < 64) (h : bm_mg (bm_mg s (if nI y = nI x then nI t else -1)) (rb x) = r) : bm_mg s (upd rb y (nI t) x) = r := by
  rw [bm_mg_as] at h
  by_cases z : y = x
  · subst z
    rw [if_pos rfl, bm_mg_n _ (bm_ne1 (by omega))] at h
    rw [pk_us]
    exact h
  · rw [if_neg (fun w => z (bm_im w (by omega) (by omega))), bm_mg_l] at h
    rw [pk_un (fun w => z w.symm)]
    exact h
end
