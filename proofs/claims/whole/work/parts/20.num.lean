/-! ===== NUMBERS: the functions of the walks, evaluated ===== -/
theorem k1s {α β : Type} (a : α) (k : α → Option β) : g_k1 (some a) k = k a := rfl
theorem k2s {α1 α2 β : Type} (a : α1) (b : α2) (k : α1 → α2 → Option β) : g_k2 (some (a, b)) k = k a b := rfl
theorem k3s {α1 α2 α3 β : Type} (a : α1) (b : α2) (c : α3) (k : α1 → α2 → α3 → Option β) : g_k3 (some (a, b, c)) k = k a b c := rfl
theorem k1i {α β : Type} {c : Prop} [Decidable c] (a b : Option α) (k : α → Option β) : g_k1 (if c then a else b) k = if c then g_k1 a k else g_k1 b k := by split <;> rfl
theorem k2i {α1 α2 β : Type} {c : Prop} [Decidable c] (a b : Option (α1 × α2)) (k : α1 → α2 → Option β) : g_k2 (if c then a else b) k = if c then g_k2 a k else g_k2 b k := by split <;> rfl
theorem k1k {α β γ : Type} (o : Option α) (f : α → Option β) (k : β → Option γ) : g_k1 (g_k1 o f) k = g_k1 o (fun a => g_k1 (f a) k) := by cases o <;> rfl
theorem k2k {α β1 β2 γ : Type} (o : Option α) (f : α → Option (β1 × β2)) (k : β1 → β2 → Option γ) : g_k2 (g_k1 o f) k = g_k1 o (fun a => g_k2 (f a) k) := by cases o <;> rfl
theorem gz0 : gzb 0 = some 0 := rfl
theorem gz1 : gzb 1 = some 1 := rfl
noncomputable def b01 (P : Prop) : Int32 := @ite Int32 P (Classical.propDecidable P) 1 0
theorem b01_t {P : Prop} (h : P) : b01 P = 1 := by unfold b01; exact if_pos h
theorem b01_f {P : Prop} (h : ¬ P) : b01 P = 0 := by unfold b01; exact if_neg h
theorem b01_c {P Q : Prop} (h : P ↔ Q) : b01 P = b01 Q := by rw [show P = Q from propext h]
theorem b01_z (P : Prop) : gzb (b01 P) = some (b01 P) := by
  by_cases h : P
  · rw [b01_t h]; rfl
  · rw [b01_f h]; rfl
theorem b01_0 {P : Prop} : b01 P = 0 ↔ ¬ P := by
  by_cases h : P
  · rw [b01_t h]; simp [h]
  · rw [b01_f h]; simp [h]
theorem up2_ap (σ : gSt) (k j : Nat) (v : Int32) (k' j' : Nat) : up2 σ k j v k' j' = if k' = k ∧ j' = j then v else σ k' j' := by
  unfold up2 va_up upd
  by_cases h : k' = k
  · subst h
    by_cases h2 : j' = j
    · simp [h2]
    · simp [h2]
  · simp [h]
theorem up2_s (σ : gSt) (k j : Nat) (v : Int32) : up2 σ k j v k j = v := by rw [up2_ap]; simp
theorem up2_k {σ : gSt} {k j : Nat} {v : Int32} {k' : Nat} (h : k' ≠ k) : up2 σ k j v k' = σ k' := by funext j'; rw [up2_ap]; simp [h]
theorem up2_j {σ : gSt} {k j : Nat} {v : Int32} {j' : Nat} (h : j' ≠ j) : up2 σ k j v k j' = σ k j' := by rw [up2_ap]; simp [h]
theorem gald_n {σ : gSt} {k len j : Nat} (h : j < len) (hl : len ≤ 10000) : gald σ k len (nI j) = some (σ k j) := by
  unfold gald; rw [nI_toInt (by omega), nI_clamp (by omega), if_pos (by omega)]
theorem gast_n {σ : gSt} {k len j : Nat} {x : Int32} (h : j < len) (hl : len ≤ 10000) : gast σ k len (nI j) x = some (up2 σ k j x) := by
  unfold gast; rw [nI_toInt (by omega), nI_clamp (by omega), if_pos (by omega)]
theorem gset_n (σ : gSt) (k j : Nat) (x : Int32) : gset σ k j x = some (up2 σ k j x) := rfl
theorem gcpy_n {σ : gSt} {k0 l0 k1 l1 sp dp n : Nat} (h1 : sp + n ≤ l0) (h2 : dp + n ≤ l1) (h3 : l0 ≤ 10000) (h4 : l1 ≤ 10000) : gcpy σ k0 l0 k1 l1 (nI sp) (nI dp) (nI n) = some (va_up σ k1 (va_cpy (σ k0) (σ k1) sp dp n)) := by
  unfold gcpy; rw [nI_toInt (by omega), nI_toInt (by omega), nI_toInt (by omega), nI_clamp (by omega), nI_clamp (by omega), nI_clamp (by omega), if_pos (by omega)]
/-- an int is a small number, or it lies outside of a range of such -/
theorem i_cases (x : Int32) (n : Nat) (hn : n < 2 ^ 31) : (∃ j, j < n ∧ x = nI j) ∨ x < 0 ∨ nI n ≤ x := by
  rcases pk_ix x hn with h | h | h
  · exact Or.inr (Or.inl h)
  · exact Or.inr (Or.inr h)
  · exact Or.inl h
theorem nI_sub1 {n : Nat} (h : 0 < n) : nI n - 1 = nI (n - 1) := by
  obtain ⟨m, rfl⟩ : ∃ m, n = m + 1 := ⟨n - 1, by omega⟩
  rw [nI_pred]; rfl
/-- a number that an int stands for -/
def nN (x : Int32) : Nat := x.toNatClampNeg
theorem nN_nI {n : Nat} (h : n < 2 ^ 31) : nN (nI n) = n := nI_clamp h
theorem nI_nN {x : Int32} (h : 0 ≤ x) : nI (nN x) = x := by
  obtain ⟨j, hj, rfl⟩ := nI_of (x := x) (Int32.not_lt.mpr h)
  rw [nN_nI hj]
/-! ===== a film in numbers: h its head (0 length, 1..6 settings, 7 number of cuts, 8.. cuts, 28 29 numbers of captions), k t c w the captions (w: 0 first, 1 end, 2 kind, 3 size, 4.. letters) ===== -/
abbrev fH : Type := Nat → Int32
abbrev fK : Type := Nat → Nat → Nat → Int32
def nC (h : fH) : Nat := nN (h 7)
def nT (h : fH) (t : Nat) : Nat := nN (h (28 + t))
def FT (σ : gSt) (T n : Nat) (kp : Nat → Nat → Int32) : Prop :=
  σ T 5 = nI n ∧ n ≤ 16 ∧ ∀ c, c < n → σ (T + 1) c = kp c 0 ∧ σ (T + 2) c = kp c 1 ∧ σ (T + 3) c = kp c 2 ∧ σ (T + 4) c = kp c 3 ∧ ∀ i, i < nN (kp c 3) → σ (T + 5) (24 * c + i) = kp c (4 + i)
def tB (f t : Nat) : Nat := f + 4 + 6 * t
def FR (σ : gSt) (f : Nat) (h : fH) (k : fK) : Prop :=
  σ f 0 = h 0 ∧ (∀ j, j < 6 → σ (f + 1) j = h (1 + j)) ∧ σ (f + 2) 1 = h 7 ∧ (∀ i, i < nC h → σ (f + 3) i = h (8 + i)) ∧ ∀ t, t < 2 → FT σ (tB f t) (nT h t) (k t)
def isW (x : Int32) : Prop := x = 95 ∨ x = 124 ∨ (97 ≤ x ∧ x ≤ 122)
/-- how many of the first m letters are bars -/
def nB (u : Nat → Int32) : Nat → Nat
  | 0 => 0
  | m + 1 => nB u m + if u m = 124 then 1 else 0
def txtOK (m : Nat) (u : Nat → Int32) : Prop := 1 ≤ m ∧ m ≤ 24 ∧ (∀ i, i < m → isW (u i)) ∧ nB u m ≤ 1 ∧ u 0 ≠ 124 ∧ u (m - 1) ≠ 124
def capOK (len : Int32) (c : Nat → Int32) : Prop := 0 ≤ c 0 ∧ c 0 < c 1 ∧ c 1 ≤ len ∧ (0 ≤ c 2 ∧ c 2 ≤ 2) ∧ c 3 = nI (nN (c 3)) ∧ txtOK (nN (c 3)) (fun i => c (4 + i))
def setOK (h : fH) : Prop := (100 ≤ h 0 ∧ h 0 ≤ 9999) ∧ (5 ≤ h 1 ∧ h 1 ≤ 30) ∧ (0 ≤ h 2 ∧ h 2 ≤ 12) ∧ (0 ≤ h 3 ∧ h 3 ≤ 9) ∧ (0 ≤ h 4 ∧ h 4 ≤ 25) ∧ (0 ≤ h 5 ∧ h 5 ≤ 25) ∧ (5 ≤ h 6 ∧ h 6 ≤ 24)
def cutOK (h : fH) : Prop := h 7 = nI (nC h) ∧ nC h ≤ 20 ∧ (∀ i, i < nC h → 1 ≤ h (8 + i) ∧ h (8 + i) < h 0) ∧ ∀ i, i + 1 < nC h → h (8 + i) < h (8 + (i + 1))
def trkOK (h : fH) (k : fK) (t : Nat) : Prop := h (28 + t) = nI (nT h t) ∧ nT h t ≤ 16 ∧ (∀ c, c < nT h t → capOK (h 0) (k t c)) ∧ ∀ c, c + 1 < nT h t → k t c 1 ≤ k t (c + 1) 0
def Inv (h : fH) (k : fK) : Prop := setOK h ∧ cutOK h ∧ ∀ t, t < 2 → trkOK h k t
theorem Inv.len {h : fH} {k : fK} (I : Inv h k) : 100 ≤ h 0 ∧ h 0 ≤ 9999 := I.1.1
/-! ===== the class's captions ===== -/
theorem c_trackOf (σ : gSt) (f : Nat) {t : Nat} (ht : t < 2) : f_X3_trackOf σ f (nI t) = some (tB f t) := by
  unfold f_X3_trackOf
  rcases (show t = 0 ∨ t = 1 by omega) with rfl | rfl
  · rfl
  · rfl
theorem c_trackBeside (σ : gSt) (f : Nat) {t : Nat} (ht : t < 2) : f_X3_trackBeside σ f (nI t) = some (tB f (1 - t)) := by
  unfold f_X3_trackBeside
  rcases (show t = 0 ∨ t = 1 by omega) with rfl | rfl
  · rfl
  · rfl
theorem c_has (σ : gSt) (T : Nat) (x : Int32) : f_X8_has σ T x = some (b01 (0 ≤ x ∧ x < σ T 5 ∧ x < 16)) := by
  unfold f_X8_has
  by_cases h1 : x < 0
  · rw [if_pos h1, b01_f (by grind)]; rfl
  · rw [if_neg h1]
    by_cases h2 : σ T 5 ≤ x
    · rw [if_pos h2, b01_f (by grind)]; rfl
    · rw [if_neg h2]
      by_cases h3 : (16 : Int32) ≤ x
      · rw [if_pos h3, b01_f (by grind)]; rfl
      · rw [if_neg h3, b01_t (by grind)]; rfl
theorem c_has_t {σ : gSt} {T n c : Nat} (h5 : σ T 5 = nI n) (hn : n ≤ 16) (hc : c < n) : f_X8_has σ T (nI c) = some 1 := by
  rw [c_has, b01_t]
  refine ⟨nI_pos' (by omega), ?_, ?_⟩
  · rw [h5]; exact nI_lt hc (by omega)
  · exact nI_lt (b := 16) (by omega) (by omega)
theorem c_has_f {σ : gSt} {T n : Nat} {x : Int32} (h5 : σ T 5 = nI n) (hx : x < 0 ∨ nI n ≤ x) : f_X8_has σ T x = some 0 := by
  rw [c_has, b01_f]
  rintro ⟨h1, h2, -⟩
  rw [h5] at h2
  grind
theorem c_first {σ : gSt} {T n c : Nat} {kp : Nat → Nat → Int32} (F : FT σ T n kp) (hc : c < n) : f_X8_first σ T (nI c) = some (kp c 0) := by
  have h2 := F.2.1
  unfold f_X8_first
  rw [c_has_t F.1 F.2.1 hc, k1s, if_neg (by decide), gald_n (by omega) (by omega), k1s, k1s, (F.2.2 c hc).1]
theorem c_end {σ : gSt} {T n c : Nat} {kp : Nat → Nat → Int32} (F : FT σ T n kp) (hc : c < n) : f_X8_end σ T (nI c) = some (kp c 1) := by
  have h2 := F.2.1
  unfold f_X8_end
  rw [c_has_t F.1 F.2.1 hc, k1s, if_neg (by decide), gald_n (by omega) (by omega), k1s, k1s, (F.2.2 c hc).2.1]
theorem c_kind {σ : gSt} {T n c : Nat} {kp : Nat → Nat → Int32} (F : FT σ T n kp) (hc : c < n) : f_X8_kind σ T (nI c) = some (kp c 2) := by
  have h2 := F.2.1
  unfold f_X8_kind
  rw [c_has_t F.1 F.2.1 hc, k1s, if_neg (by decide), gald_n (by omega) (by omega), k1s, k1s, (F.2.2 c hc).2.2.1]
theorem c_size {σ : gSt} {T n c : Nat} {kp : Nat → Nat → Int32} (F : FT σ T n kp) (hc : c < n) : f_X8_size σ T (nI c) = some (kp c 3) := by
  have h2 := F.2.1
  unfold f_X8_size
  rw [c_has_t F.1 F.2.1 hc, k1s, if_neg (by decide), gald_n (by omega) (by omega), k1s, k1s, (F.2.2 c hc).2.2.2.1]
theorem c_frames {σ : gSt} {T n c : Nat} {kp : Nat → Nat → Int32} (F : FT σ T n kp) (hc : c < n) : f_X8_frames σ T (nI c) = some (kp c 1 - kp c 0) := by
  unfold f_X8_frames
  rw [c_end F hc, k1s, c_first F hc, k1s]
theorem c_signAt {σ : gSt} {T n c i : Nat} {kp : Nat → Nat → Int32} (F : FT σ T n kp) (hc : c < n) (hs : kp c 3 = nI (nN (kp c 3))) (h24 : nN (kp c 3) ≤ 24) (hi : i < nN (kp c 3)) : f_X8_signAt σ T (nI c) (nI i) = some (kp c (4 + i)) := by
  have h2 := F.2.1
  obtain ⟨-, -, -, f4, f5⟩ := F.2.2 c hc
  unfold f_X8_signAt
  rw [c_has_t F.1 F.2.1 hc, k1s, if_neg (by decide), if_neg (nI_pos (by omega)), gald_n (by omega) (by omega), k1s, f4, hs, if_neg (nI_ge hi (by omega)), if_pos (show nI i < 24 from nI_lt (b := 24) (by omega) (by omega))]
  rw [show (nI c * 24 + nI i : Int32) = nI (24 * c + i) by rw [show (24 : Int32) = nI 24 from rfl, pk_mul, nI_add, Nat.mul_comm], gald_n (by omega) (by omega), k1s, f5 i hi]
theorem c_signAt_out {σ : gSt} {T n c : Nat} {x : Int32} {kp : Nat → Nat → Int32} (F : FT σ T n kp) (hc : c < n) (hx : x < 0 ∨ kp c 3 ≤ x) : f_X8_signAt σ T (nI c) x = some (-1) := by
  have h2 := F.2.1
  obtain ⟨-, -, -, f4, f5⟩ := F.2.2 c hc
  unfold f_X8_signAt
  rw [c_has_t F.1 F.2.1 hc, k1s, if_neg (by decide)]
  by_cases h : x < 0
  · rw [if_pos h]
  · rw [if_neg h, gald_n (by omega) (by omega), k1s, f4, if_pos (hx.resolve_left h)]
