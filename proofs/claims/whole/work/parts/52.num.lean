/-! ===== retiming: what is refused ===== -/
def rsn (len a b : Int32) : Int32 := if a < 0 then 1 else if b ≤ len then (if a < b then 0 else 2) else 1
theorem rsn_c {len a b : Int32} : rsn len a b = 0 ∨ rsn len a b = 1 ∨ rsn len a b = 2 := by
  unfold rsn
  by_cases h1 : a < 0
  · rw [if_pos h1]; exact Or.inr (Or.inl rfl)
  · rw [if_neg h1]
    by_cases h2 : b ≤ len
    · rw [if_pos h2]
      by_cases h3 : a < b
      · rw [if_pos h3]; exact Or.inl rfl
      · rw [if_neg h3]; exact Or.inr (Or.inr rfl)
    · rw [if_neg h2]; exact Or.inr (Or.inl rfl)
theorem rsn_0 {len a b : Int32} (h : rsn len a b = 0) : 0 ≤ a ∧ b ≤ len ∧ a < b := by
  unfold rsn at h
  grind
def low (i x : Int32) : Int32 := if x ≤ 0 then i else if i = 0 then x else if i ≤ x then i else x
def sLw (f : Nat → Int32) (a : Int32) : Nat → Int32
  | 0 => a
  | n + 1 => low (sLw f a n) (f n)
def t3 (x : Int32) : Prop := x = 0 ∨ x = 1 ∨ x = 2
theorem low_3 {i x : Int32} (hi : t3 i) (hx : t3 x) : t3 (low i x) := by
  unfold t3 low at *
  rcases hi with rfl | rfl | rfl <;> rcases hx with rfl | rfl | rfl <;> decide
theorem low_c {i x : Int32} (hi : t3 i) (hx : t3 x) : (if i = 0 then some x else (if x = 0 then some i else (if i ≤ x then some i else some x))) = some (low i x) := by
  unfold t3 low at *
  rcases hi with rfl | rfl | rfl <;> rcases hx with rfl | rfl | rfl <;> decide
theorem low_0 {i x : Int32} (hi : t3 i) (hx : t3 x) (h : low i x = 0) : i = 0 ∧ x = 0 := by
  unfold t3 low at *
  rcases hi with rfl | rfl | rfl <;> rcases hx with rfl | rfl | rfl <;> revert h <;> decide
theorem sLw_3 {f : Nat → Int32} {a : Int32} (ha : t3 a) {n : Nat} (hf : ∀ i, i < n → t3 (f i)) : t3 (sLw f a n) := by
  induction n with
  | zero => exact ha
  | succ n ih => exact low_3 (ih fun i hi => hf i (by omega)) (hf n (by omega))
theorem sLw_0 {f : Nat → Int32} {a : Int32} (ha : t3 a) {n : Nat} (hf : ∀ i, i < n → t3 (f i)) (h : sLw f a n = 0) : a = 0 ∧ ∀ i, i < n → f i = 0 := by
  induction n with
  | zero => exact ⟨h, fun i hi => by omega⟩
  | succ n ih =>
    obtain ⟨h1, h2⟩ := low_0 (sLw_3 ha fun i hi => hf i (by omega)) (hf n (by omega)) h
    obtain ⟨h3, h4⟩ := ih (fun i hi => hf i (by omega)) h1
    exact ⟨h3, fun i hi => by
      by_cases e : i = n
      · subst e; exact h2
      · exact h4 i (by omega)⟩
/-- a retiming's numbers lie at the cell K -/
def RT (σ : gSt) (K : Nat) (u v x y : Int32) : Prop := σ K 0 = u ∧ σ K 1 = v ∧ σ K 2 = dst y v ∧ σ K 3 = dst x u
def rtF (len : Int32) (kp : Nat → Nat → Int32) (u v x y : Int32) : Nat → Int32 := fun c => rsn len (sRt u v x y (kp c 0)) (sRt u v x y (kp c 1))
theorem rtF_3 (len : Int32) (kp : Nat → Nat → Int32) (u v x y : Int32) (c : Nat) : t3 (rtF len kp u v x y c) := rsn_c
def mnt (a : Int32) (t : Nat) : Prop := a = -1 ∨ a = nI t
theorem c_isMeant (σ : gSt) (a : Int32) (t : Nat) : f_X1_isMeant σ a (nI t) = some (b01 (mnt a t)) := by
  unfold f_X1_isMeant mnt
  by_cases h1 : a = -1
  · rw [if_pos h1, k1s, gz1, k1s, b01_t (Or.inl h1)]
  · rw [if_neg h1]
    by_cases h2 : a = nI t
    · rw [if_pos h2, k1s, gz1, k1s, b01_t (Or.inr h2)]
    · rw [if_neg h2, k1s, gz0, k1s, b01_f (fun h => h.elim h1 h2)]
theorem c_span (σ : gSt) (k : Nat) (a b : Int32) : f_X3_spanRefusal σ k a b = some (rsn (σ k 0) a b) := by
  unfold f_X3_spanRefusal rsn
  rw [ite_some, k1s, ite_some, ite_some]
theorem c_rtRef_l {σ : gSt} {h : fH} {k : fK} (F : FR σ 1 h k) (I : Inv h k) {K : Nat} {u v x y a : Int32} (P : pts u v x y) (T : RT σ K u v x y) {t : Nat} (ht : t < 2) (hm : mnt a t) {i0 : Int32} (h3 : t3 i0) : ∀ (d i f : Nat), i + d = nT h t → d < f → f_X1_retimeRefusal_l2 σ a K (nI t) (tB 1 t) f (nI i) (sLw (rtF (h 0) (k t) u v x y) i0 i) = some (sLw (rtF (h 0) (k t) u v x y) i0 (nT h t)) := by
  have F1 := F.trk ht
  have h16 := I.n16 ht
  obtain ⟨T0, T1, T2, T3⟩ := T
  intro d
  induction d with
  | zero =>
    intro i f hi hf
    obtain ⟨f, rfl⟩ : ∃ m, f = m + 1 := ⟨f - 1, by omega⟩
    obtain rfl : i = nT h t := by omega
    rw [f_X1_retimeRefusal_l2, F1.1, if_pos (Int32.le_refl _)]
  | succ d ih =>
    intro i f hi hf
    obtain ⟨f, rfl⟩ : ∃ m, f = m + 1 := ⟨f - 1, by omega⟩
    have hc : i < nT h t := by omega
    rw [f_X1_retimeRefusal_l2, F1.1, if_neg (nI_ge hc (by omega)), c_isMeant, k1s, b01_t hm, if_neg (by decide), c_first F1 hc, k1s, c_frameFor P (I.in0 ht hc) T0 T1 T2 T3, k1s, c_end F1 hc, k1s, c_frameFor P (I.in1 ht hc) T0 T1 T2 T3, k1s, c_span, k1s, F.1]
    rw [low_c (i := sLw (rtF (h 0) (k t) u v x y) i0 i) (x := rsn (h 0) (sRt u v x y (k t i 0)) (sRt u v x y (k t i 1))) (sLw_3 h3 fun _ _ => rtF_3 ..) rsn_c, k1s, nI_s1]
    exact ih (i + 1) f (by omega) (by omega)
theorem c_rtRef_n {σ : gSt} {K t n f : Nat} {a i0 : Int32} (h5 : σ (tB 1 t) 5 = nI n) (hm : ¬ mnt a t) (hf : 0 < f) : f_X1_retimeRefusal_l2 σ a K (nI t) (tB 1 t) f (nI 0) i0 = some i0 := by
  obtain ⟨f, rfl⟩ : ∃ m, f = m + 1 := ⟨f - 1, by omega⟩
  rw [f_X1_retimeRefusal_l2, c_isMeant, k1s, b01_f hm, if_pos rfl, ite_some]
  split <;> rfl
noncomputable def rtR (h : fH) (k : fK) (u v x y a : Int32) (t : Nat) (i0 : Int32) : Int32 := @ite Int32 (mnt a t) (Classical.propDecidable _) (sLw (rtF (h 0) (k t) u v x y) i0 (nT h t)) i0
theorem rtR_t {h : fH} {k : fK} {u v x y a : Int32} {t : Nat} {i0 : Int32} (hm : mnt a t) : rtR h k u v x y a t i0 = sLw (rtF (h 0) (k t) u v x y) i0 (nT h t) := by unfold rtR; exact if_pos hm
theorem rtR_f {h : fH} {k : fK} {u v x y a : Int32} {t : Nat} {i0 : Int32} (hm : ¬ mnt a t) : rtR h k u v x y a t i0 = i0 := by unfold rtR; exact if_neg hm
theorem rtR_3 {h : fH} {k : fK} {u v x y a : Int32} {t : Nat} {i0 : Int32} (h3 : t3 i0) : t3 (rtR h k u v x y a t i0) := by
  by_cases hm : mnt a t
  · rw [rtR_t hm]; exact sLw_3 h3 fun _ _ => rtF_3 ..
  · rw [rtR_f hm]; exact h3
theorem rtR_0 {h : fH} {k : fK} {u v x y a : Int32} {t : Nat} {i0 : Int32} (h3 : t3 i0) (e : rtR h k u v x y a t i0 = 0) : i0 = 0 ∧ (mnt a t → ∀ c, c < nT h t → rtF (h 0) (k t) u v x y c = 0) := by
  by_cases hm : mnt a t
  · rw [rtR_t hm] at e
    have := sLw_0 h3 (fun _ _ => rtF_3 ..) e
    exact ⟨this.1, fun _ => this.2⟩
  · rw [rtR_f hm] at e
    exact ⟨e, fun h => absurd h hm⟩
theorem c_rtRef_t {σ : gSt} {h : fH} {k : fK} (F : FR σ 1 h k) (I : Inv h k) {K : Nat} {u v x y a : Int32} (P : pts u v x y) (T : RT σ K u v x y) {t : Nat} (ht : t < 2) {i0 : Int32} (h3 : t3 i0) : f_X1_retimeRefusal_l2 σ a K (nI t) (tB 1 t) FU 0 i0 = some (rtR h k u v x y a t i0) := by
  have hF := FU_ge
  have h16 := I.n16 ht
  by_cases hm : mnt a t
  · rw [rtR_t hm]
    exact c_rtRef_l F I P T ht hm h3 (nT h t) 0 FU (by omega) (by omega)
  · rw [rtR_f hm]
    exact c_rtRef_n (F.trk ht).1 hm (by omega)
noncomputable def rtN (h : fH) (k : fK) (u v x y a : Int32) : Int32 := rtR h k u v x y a 1 (rtR h k u v x y a 0 0)
theorem c_rtRef {σ : gSt} {h : fH} {k : fK} (F : FR σ 1 h k) (I : Inv h k) {K : Nat} {u v x y a : Int32} (P : pts u v x y) (T : RT σ K u v x y) : f_X1_retimeRefusal σ a K = some (rtN h k u v x y a) := by
  have h0 : t3 0 := Or.inl rfl
  have e : ∀ f, 3 ≤ f → f_X1_retimeRefusal_l1 σ a K f 0 0 = some (rtN h k u v x y a) := by
    intro f hf
    obtain ⟨f, rfl⟩ : ∃ m, f = m + 3 := ⟨f - 3, by omega⟩
    rw [show f + 3 = (f + 2) + 1 from rfl, f_X1_retimeRefusal_l1, if_neg (by decide), show f_X3_trackOf σ 1 0 = _ from c_trackOf σ 1 (t := 0) (by omega), k1s]
    rw [show f_X1_retimeRefusal_l2 σ a K 0 (tB 1 0) FU 0 0 = _ from c_rtRef_t F I P T (t := 0) (a := a) (by omega) h0, k1s]
    rw [show f + 2 = (f + 1) + 1 from rfl, f_X1_retimeRefusal_l1, show (0 : Int32) + 1 = nI 1 from rfl, if_neg (by decide), c_trackOf σ 1 (t := 1) (by omega), k1s, c_rtRef_t F I P T (t := 1) (a := a) (by omega) (rtR_3 h0), k1s]
    rw [f_X1_retimeRefusal_l1, if_pos (by decide)]
    rfl
  unfold f_X1_retimeRefusal
  rw [e FU (by have := FU_ge; omega), k1s]
theorem m_rtRef_s {σ : gSt} (I : Inv (σ 1) (gK (σ 1))) {u v x y a : Int32} (P : pts u v x y) {t : Nat} (ht : t < 2) {i0 : Int32} (h3 : t3 i0) {i : Nat} (hc : i < nT (σ 1) t) {f : Nat}
    (e : f_X10_retime_l2 a u v x y σ (nI t) f (nI (i + 1)) (sLw (rtF (σ 1 0) (gK (σ 1) t) u v x y) i0 (i + 1)) = some (sLw (rtF (σ 1 0) (gK (σ 1) t) u v x y) i0 (nT (σ 1) t))) :
    (g_k1 (f_X10_first σ (nI t) (nI i)) fun v17 => (g_k1 (f_X10_retimed σ v17 u v x y) fun v18 => (g_k1 (f_X10_end σ (nI t) (nI i)) fun v19 => (g_k1 (f_X10_retimed σ v19 u v x y) fun v20 => (g_k1 (if v18 < 0 then some (1 : Int32) else (if v20 ≤ (σ 1 0) then (if v18 < v20 then some (0 : Int32) else some (2 : Int32)) else some (1 : Int32))) fun x21 => (g_k1 (if x21 ≤ 0 then some (sLw (rtF (σ 1 0) (gK (σ 1) t) u v x y) i0 i) else (if (sLw (rtF (σ 1 0) (gK (σ 1) t) u v x y) i0 i) = 0 then some x21 else (if (sLw (rtF (σ 1 0) (gK (σ 1) t) u v x y) i0 i) ≤ x21 then some (sLw (rtF (σ 1 0) (gK (σ 1) t) u v x y) i0 i) else some x21))) fun x24 => (f_X10_retime_l2 a u v x y σ (nI t) f (nI i + 1) x24))))))) = some (sLw (rtF (σ 1 0) (gK (σ 1) t) u v x y) i0 (nT (σ 1) t)) := by
  have h16 := I.n16 ht
  rw [m_first ht (by omega), k1s, m_retimed P (I.in0 ht hc), k1s, m_end ht (by omega), k1s, m_retimed P (I.in1 ht hc), k1s, ite_some, ite_some, ite_some, k1s, ite_some, ite_some, ite_some, k1s, nI_s1]
  exact e
theorem m_rtRef_l {σ : gSt} (I : Inv (σ 1) (gK (σ 1))) {u v x y a : Int32} (P : pts u v x y) {t : Nat} (ht : t < 2) (hm : mnt a t) {i0 : Int32} (h3 : t3 i0) : ∀ (d i f : Nat), i + d = nT (σ 1) t → d < f → f_X10_retime_l2 a u v x y σ (nI t) f (nI i) (sLw (rtF (σ 1 0) (gK (σ 1) t) u v x y) i0 i) = some (sLw (rtF (σ 1 0) (gK (σ 1) t) u v x y) i0 (nT (σ 1) t)) := by
  have h16 := I.n16 ht
  intro d
  induction d with
  | zero =>
    intro i f hi hf
    obtain ⟨f, rfl⟩ : ∃ m, f = m + 1 := ⟨f - 1, by omega⟩
    obtain rfl : i = nT (σ 1) t := by omega
    rw [f_X10_retime_l2, m_cnt ht, k1s, I.nT_eq ht, if_pos (Int32.le_refl _)]
  | succ d ih =>
    intro i f hi hf
    obtain ⟨f, rfl⟩ : ∃ m, f = m + 1 := ⟨f - 1, by omega⟩
    have hc : i < nT (σ 1) t := by omega
    have e := m_rtRef_s I P ht h3 hc (ih (i + 1) f (by omega) (by omega))
    rw [f_X10_retime_l2, m_cnt ht, k1s, I.nT_eq ht, if_neg (nI_ge hc (by omega))]
    by_cases h1 : a < 0
    · rw [if_pos h1]; exact e
    · rw [if_neg h1, if_pos (show a = nI t from hm.resolve_left (fun hh => h1 (by rw [hh]; decide)))]; exact e
theorem m_rtRef_n {σ : gSt} {u v x y a i0 : Int32} {t n f : Nat} (ht : t < 2) (h5 : σ 1 (28 + t) = nI n) (ha : a = -1 ∨ ∃ t', t' < 2 ∧ a = nI t') (hm : ¬ mnt a t) (hf : 0 < f) : f_X10_retime_l2 a u v x y σ (nI t) f (nI 0) i0 = some i0 := by
  obtain ⟨f, rfl⟩ : ∃ m, f = m + 1 := ⟨f - 1, by omega⟩
  obtain ⟨t', ht', rfl⟩ := ha.resolve_left (fun h => hm (Or.inl h))
  rw [f_X10_retime_l2, m_cnt ht, k1s, h5, if_neg (nI_pos (by omega)), if_neg (fun h => hm (Or.inr h))]
  split <;> rfl
theorem m_rtRef_t {σ : gSt} (I : Inv (σ 1) (gK (σ 1))) {u v x y a : Int32} (P : pts u v x y) (ha : a = -1 ∨ ∃ t', t' < 2 ∧ a = nI t') {t : Nat} (ht : t < 2) {i0 : Int32} (h3 : t3 i0) : f_X10_retime_l2 a u v x y σ (nI t) FU 0 i0 = some (rtR (σ 1) (gK (σ 1)) u v x y a t i0) := by
  have hF := FU_ge
  have h16 := I.n16 ht
  by_cases hm : mnt a t
  · rw [rtR_t hm]
    exact m_rtRef_l I P ht hm h3 (nT (σ 1) t) 0 FU (by omega) (by omega)
  · rw [rtR_f hm]
    exact m_rtRef_n ht (I.nT_eq ht) ha hm (by omega)
theorem m_rtRef {σ : gSt} (I : Inv (σ 1) (gK (σ 1))) {u v x y a : Int32} (P : pts u v x y) (ha : a = -1 ∨ ∃ t', t' < 2 ∧ a = nI t') : f_X10_retime_l1 a u v x y σ FU 0 0 = some (rtN (σ 1) (gK (σ 1)) u v x y a) := by
  have h0 : t3 0 := Or.inl rfl
  have hF := FU_ge
  have e : ∀ f, 3 ≤ f → f_X10_retime_l1 a u v x y σ f 0 0 = some (rtN (σ 1) (gK (σ 1)) u v x y a) := by
    intro f hf
    obtain ⟨f, rfl⟩ : ∃ m, f = m + 3 := ⟨f - 3, by omega⟩
    rw [show f + 3 = (f + 2) + 1 from rfl, f_X10_retime_l1, if_neg (by decide)]
    rw [show f_X10_retime_l2 a u v x y σ 0 FU 0 0 = _ from m_rtRef_t I P ha (t := 0) (by omega) h0, k1s]
    rw [show f + 2 = (f + 1) + 1 from rfl, f_X10_retime_l1, show (0 : Int32) + 1 = nI 1 from rfl, if_neg (by decide), m_rtRef_t I P ha (t := 1) (by omega) (rtR_3 h0), k1s]
    rw [f_X10_retime_l1, if_pos (by decide)]
    rfl
  exact e FU (by omega)
