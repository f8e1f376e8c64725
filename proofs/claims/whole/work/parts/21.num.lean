/-! ===== counts ===== -/
def cB (p : Nat → Bool) : Nat → Nat
  | 0 => 0
  | m + 1 => cB p m + if p m = true then 1 else 0
theorem cB_s (p : Nat → Bool) (m : Nat) : cB p (m + 1) = cB p m + if p m = true then 1 else 0 := rfl
theorem cB_le_n (p : Nat → Bool) (m : Nat) : cB p m ≤ m := by
  induction m with
  | zero => exact Nat.le_refl 0
  | succ m ih => rw [cB_s]; split <;> omega
theorem cB_congr {p q : Nat → Bool} {m : Nat} (h : ∀ i, i < m → p i = q i) : cB p m = cB q m := by
  induction m with
  | zero => rfl
  | succ m ih => rw [cB_s, cB_s, ih (fun i hi => h i (by omega)), h m (by omega)]
theorem cB_mono {p q : Nat → Bool} {m : Nat} (h : ∀ i, i < m → p i = true → q i = true) : cB p m ≤ cB q m := by
  induction m with
  | zero => exact Nat.le_refl 0
  | succ m ih =>
    have h1 := ih (fun i hi => h i (by omega))
    have h2 := h m (by omega)
    rw [cB_s, cB_s]
    by_cases hp : p m = true
    · rw [if_pos hp, if_pos (h2 hp)]; omega
    · rw [if_neg hp]; split <;> omega
theorem cB_lt {p q : Nat → Bool} {m : Nat} (h : ∀ i, i < m → p i = true → q i = true) {j : Nat} (hj : j < m) (hq : q j = true) (hp : ¬ p j = true) : cB p m < cB q m := by
  induction m with
  | zero => omega
  | succ m ih =>
    rw [cB_s, cB_s]
    have h2 := h m (by omega)
    by_cases hm : j = m
    · subst hm
      have h1 : cB p j ≤ cB q j := cB_mono (fun i hi => h i (by omega))
      rw [if_neg hp, if_pos hq]; omega
    · have h1 := ih (fun i hi => h i (by omega)) (by omega)
      by_cases hpm : p m = true
      · rw [if_pos hpm, if_pos (h2 hpm)]; omega
      · rw [if_neg hpm]; split <;> omega
theorem cB_sub {p q r : Nat → Bool} {m : Nat} (h : ∀ i, i < m → (q i = true ↔ (p i = true ∨ r i = true)) ∧ ¬ (p i = true ∧ r i = true)) : cB q m = cB p m + cB r m := by
  induction m with
  | zero => rfl
  | succ m ih =>
    have h1 := ih (fun i hi => h i (by omega))
    obtain ⟨h2, h3⟩ := h m (by omega)
    rw [cB_s, cB_s, cB_s]
    by_cases hp : p m = true
    · have hr : ¬ r m = true := fun hr => h3 ⟨hp, hr⟩
      rw [if_pos hp, if_neg hr, if_pos (h2.mpr (Or.inl hp))]; omega
    · by_cases hr : r m = true
      · rw [if_neg hp, if_pos hr, if_pos (h2.mpr (Or.inr hr))]; omega
      · rw [if_neg hp, if_neg hr, if_neg (fun hq => (h2.mp hq).elim hp hr)]; omega
/-- where the true ones come first: i is one of them when it is below their number -/
theorem cB_pre {p : Nat → Bool} {m : Nat} (h : ∀ i, i + 1 < m → p (i + 1) = true → p i = true) {i : Nat} (hi : i < m) : p i = true ↔ i < cB p m := by
  have hd : ∀ d i, i + d < m → p (i + d) = true → p i = true := by
    intro d
    induction d with
    | zero => intro i _ hp; exact hp
    | succ d ih => intro i hi hp; exact ih i (by omega) (h (i + d) (by omega) hp)
  have key : ∀ n, n ≤ m → (∀ i, i < n → (p i = true ↔ i < cB p n)) := by
    intro n
    induction n with
    | zero => intro _ i hi; omega
    | succ n ih =>
      intro hn i hi
      have ihn := ih (by omega)
      have hle := cB_le_n p n
      rw [cB_s]
      by_cases hp : p n = true
      · rw [if_pos hp]
        have hall : cB p n = n := by
          rcases Nat.eq_zero_or_pos n with h0 | h0
          · omega
          · have := (ihn (n - 1) (by omega)).mp (hd 1 (n - 1) (by omega) (by rw [show n - 1 + 1 = n by omega]; exact hp))
            omega
        by_cases hin : i = n
        · subst hin; simp [hp, hall]
        · have := ihn i (by omega)
          rw [this]; omega
      · rw [if_neg hp]
        by_cases hin : i = n
        · subst hin
          constructor
          · intro h1; exact absurd h1 hp
          · intro h1; omega
        · have := ihn i (by omega)
          rw [this]; omega
  exact key m (Nat.le_refl m) i hi
/-! ===== the class's cuts ===== -/
def FC (σ : gSt) (K nc : Nat) (cut : Nat → Int32) : Prop := σ K 1 = nI nc ∧ nc ≤ 20 ∧ ∀ i, i < nc → σ (K + 1) i = cut i
theorem FR.cuts {σ : gSt} {f : Nat} {h : fH} {k : fK} (F : FR σ f h k) (I : Inv h k) : FC σ (f + 2) (nC h) (fun i => h (8 + i)) :=
  ⟨F.2.2.1.trans I.2.1.1, I.2.1.2.1, F.2.2.2.1⟩
theorem c_cutAt {σ : gSt} {K nc i : Nat} {cut : Nat → Int32} (F : FC σ K nc cut) (hi : i < nc) : f_X0_at σ K (nI i) = some (cut i) := by
  obtain ⟨h1, h2, h3⟩ := F
  unfold f_X0_at
  rw [if_neg (nI_pos (by omega)), h1, if_neg (nI_ge hi (by omega)), if_neg (show ¬ (20 : Int32) ≤ nI i from nI_ge (b := 20) (a := i) (by omega) (by omega)), gald_n (by omega) (by omega), k1s, k1s, h3 i hi]
theorem c_cutAt_out {σ : gSt} {K nc : Nat} {x : Int32} {cut : Nat → Int32} (F : FC σ K nc cut) (hx : x < 0 ∨ nI nc ≤ x) : f_X0_at σ K x = some (-1) := by
  obtain ⟨h1, h2, h3⟩ := F
  unfold f_X0_at
  by_cases h : x < 0
  · rw [if_pos h]; rfl
  · rw [if_neg h, h1, if_pos (hx.resolve_left h)]; rfl
def upB (cut : Nat → Int32) (x : Int32) : Nat → Bool := fun i => decide (cut i ≤ x)
theorem c_upTo_l {σ : gSt} {K nc : Nat} {cut : Nat → Int32} (F : FC σ K nc cut) (x : Int32) : ∀ (d i n : Nat), i + d = nc → d < n → f_X0_upTo_l1 σ K x n (nI i) (nI (cB (upB cut x) i)) = some (nI (cB (upB cut x) nc)) := by
  obtain ⟨h1, h2, h3⟩ := F
  intro d
  induction d with
  | zero =>
    intro i n hi hn
    obtain ⟨n, rfl⟩ : ∃ m, n = m + 1 := ⟨n - 1, by omega⟩
    rw [f_X0_upTo_l1, h1, if_pos (nI_le (by omega) (by omega)), show i = nc by omega]
  | succ d ih =>
    intro i n hi hn
    obtain ⟨n, rfl⟩ : ∃ m, n = m + 1 := ⟨n - 1, by omega⟩
    rw [f_X0_upTo_l1, h1, if_neg (nI_ge (by omega) (by omega)), if_neg (show ¬ (20 : Int32) ≤ nI i from nI_ge (b := 20) (a := i) (by omega) (by omega)), gald_n (by omega) (by omega), k1s, h3 i (by omega)]
    have e : ∀ r, (if x < cut i then some (nI (cB (upB cut x) i)) else some (nI (cB (upB cut x) i) + 1)) = some r → r = nI (cB (upB cut x) (i + 1)) := by
      intro r hr
      rw [cB_s]
      by_cases hx : x < cut i
      · rw [if_pos hx] at hr
        rw [if_neg (by simp [upB]; exact hx)]
        exact (Option.some.inj hr).symm
      · rw [if_neg hx] at hr
        rw [if_pos (by simp [upB]; exact Int32.not_lt.mp hx), ← nI_succ] at *
        exact (Option.some.inj hr).symm
    rw [k1i, k1s, k1s]
    by_cases hx : x < cut i
    · rw [if_pos hx]
      have := ih (i + 1) n (by omega) (by omega)
      rw [← e _ (if_pos hx), nI_succ] at this
      exact this
    · rw [if_neg hx]
      have := ih (i + 1) n (by omega) (by omega)
      rw [← e _ (if_neg hx), nI_succ] at this
      exact this
theorem c_upTo {σ : gSt} {K nc : Nat} {cut : Nat → Int32} (F : FC σ K nc cut) (x : Int32) : f_X0_upTo σ K x = some (nI (cB (upB cut x) nc)) := by
  unfold f_X0_upTo
  have h2 := F.2.1
  have hF := FU_ge
  rw [show (0 : Int32) = nI 0 from rfl, show (nI 0 : Int32) = nI (cB (upB cut x) 0) from rfl]
  rw [show f_X0_upTo_l1 σ K x FU (nI (cB (upB cut x) 0)) (nI (cB (upB cut x) 0)) = f_X0_upTo_l1 σ K x FU (nI 0) (nI (cB (upB cut x) 0)) from rfl, c_upTo_l F x nc 0 FU (by omega) (by omega), k1s]
theorem c_holds {σ : gSt} {K nc : Nat} {cut : Nat → Int32} (F : FC σ K nc cut) {x : Int32} (hx : 0 ≤ x) : f_X0_holds σ K x = some (b01 (∃ i, i < nc ∧ cut i = x)) := by
  have h2 := F.2.1
  unfold f_X0_holds
  rw [c_upTo F, k1s, c_upTo F, k1s]
  have hle := cB_le_n (upB cut x) nc
  have hle2 := cB_le_n (upB cut (x - 1)) nc
  have hm : ∀ i, i < nc → upB cut (x - 1) i = true → upB cut x i = true := by
    intro i _ h; simp only [upB, decide_eq_true_eq] at h ⊢; grind
  by_cases hc : ∃ i, i < nc ∧ cut i = x
  · obtain ⟨i, hi, he⟩ := hc
    have : cB (upB cut (x - 1)) nc < cB (upB cut x) nc := cB_lt hm hi (by simp [upB, he]) (by simp only [upB, decide_eq_true_eq, he]; grind)
    rw [if_neg (nI_ge this (by omega)), b01_t ⟨i, hi, he⟩]; rfl
  · have : cB (upB cut x) nc = cB (upB cut (x - 1)) nc := cB_congr (fun i hi => by
      have : cut i ≠ x := fun e => hc ⟨i, hi, e⟩
      simp only [upB, decide_eq_decide]; grind)
    rw [this, if_pos (nI_le (Nat.le_refl _) (by omega)), b01_f hc]; rfl
