/-! ===== the cells of the class, by number: what kind each is, what it holds ===== -/
def gkdL : List Nat := [9, 3, 106, 0, 120, 8, 116, 116, 116, 116, 484, 8, 116, 116, 116, 116, 484, 2, 7, 160, 1, 7, 160, 7, 160, 4, 209, 3, 106, 0, 120, 8, 116, 116, 116, 116, 484, 8, 116, 116, 116, 116, 484, 3, 106, 0, 120, 8, 116, 116, 116, 116, 484, 8, 116, 116, 116, 116, 484, 3, 106, 0, 120, 8, 116, 116, 116, 116, 484, 8, 116, 116, 116, 116, 484, 3, 106, 0, 120, 8, 116, 116, 116, 116, 484, 8, 116, 116, 116, 116, 484, 3, 106, 0, 120, 8, 116, 116, 116, 116, 484, 8, 116, 116, 116, 116, 484, 3, 106, 0, 120, 8, 116, 116, 116, 116, 484, 8, 116, 116, 116, 116, 484, 3, 106, 0, 120, 8, 116, 116, 116, 116, 484, 8, 116, 116, 116, 116, 484, 3, 106, 0, 120, 8, 116, 116, 116, 116, 484, 8, 116, 116, 116, 116, 484, 3, 106, 0, 120, 8, 116, 116, 116, 116, 484, 8, 116, 116, 116, 116, 484, 3, 106, 0, 120, 8, 116, 116, 116, 116, 484, 8, 116, 116, 116, 116, 484, 7, 160, 7, 160, 5, 130, 130, 130, 130, 130, 130, 130, 7, 160, 30, 6]
def gkd (k : Nat) : Nat := gkdL.getD k 99
def gFx (j : Nat) : Nat := 27 + 16 * j
def celC : gCell := fun Γ ad k r => match gkd k with
  | 0 => .inr (0, [.ref (ad (k + 1)), .int (r 1)])
  | 1 => .inr (1, [.ref (ad 1), .ref (ad 17), .ref (ad 21), .ref (ad 23)])
  | 2 => .inr (2, [.ref (ad 1), .ref (ad 18)])
  | 3 => .inr (3, [.int (r 0), .ref (ad (k + 1)), .ref (ad (k + 2)), .ref (ad (k + 4)), .ref (ad (k + 10))])
  | 4 => .inr (4, [.ref (ad 26), .int (r 1), .int (r 2)])
  | 5 => .inr (5, [.ref (ad 192), .ref (ad 193), .ref (ad 194), .ref (ad 195), .ref (ad 196), .ref (ad 197), .ref (ad 198), .int (r 7), .int (r 8), .ref (ad ((r 9).toNatClampNeg))])
  | 6 => .inr (6, [.int (r 0), .int (r 1), .int (r 2), .int (r 3)])
  | 7 => .inr (7, [.ref (ad (k + 1)), .int (r 1)])
  | 8 => .inr (8, [.ref (ad (k + 1)), .ref (ad (k + 2)), .ref (ad (k + 3)), .ref (ad (k + 4)), .ref (ad (k + 5)), .int (r 5)])
  | 9 => .inr (9, [.ref (ad 1), .ref (ad 17), .ref (ad 20), .ref (ad 25), .ref (ad 171), .int (r 5), .ref (ad 187), .ref (ad 189), .ref (ad 191), .int (r 9), .int (r 10), .int (r 11)])
  | 30 => .inl (Γ.2.2.2, 1, .inr (.inl (fun j => (r j).toInt64)))
  | 106 => .inl (Γ.2.1, 6, .inl r)
  | 116 => .inl (Γ.2.1, 16, .inl r)
  | 120 => .inl (Γ.2.1, 20, .inl r)
  | 130 => .inl (Γ.2.1, 30, .inl r)
  | 160 => .inl (Γ.2.1, 60, .inl r)
  | 484 => .inl (Γ.2.1, 384, .inl r)
  | 209 => .inl (Γ.2.2.1, 9, .inr (.inr (.inr (.inr (fun j => some (ad (gFx j)))))))
  | _ => .inr (0, [])
theorem ceC_0 {Γ : gG} {ad : Nat → Nat} {k : Nat} (h : gkd k = 0) (r : Nat → Int32) : celC Γ ad k r = .inr (0, [.ref (ad (k + 1)), .int (r 1)]) := by simp only [celC, h]
theorem ceC_1 {Γ : gG} {ad : Nat → Nat} {k : Nat} (h : gkd k = 1) (r : Nat → Int32) : celC Γ ad k r = .inr (1, [.ref (ad 1), .ref (ad 17), .ref (ad 21), .ref (ad 23)]) := by simp only [celC, h]
theorem ceC_2 {Γ : gG} {ad : Nat → Nat} {k : Nat} (h : gkd k = 2) (r : Nat → Int32) : celC Γ ad k r = .inr (2, [.ref (ad 1), .ref (ad 18)]) := by simp only [celC, h]
theorem ceC_3 {Γ : gG} {ad : Nat → Nat} {k : Nat} (h : gkd k = 3) (r : Nat → Int32) : celC Γ ad k r = .inr (3, [.int (r 0), .ref (ad (k + 1)), .ref (ad (k + 2)), .ref (ad (k + 4)), .ref (ad (k + 10))]) := by simp only [celC, h]
theorem ceC_4 {Γ : gG} {ad : Nat → Nat} {k : Nat} (h : gkd k = 4) (r : Nat → Int32) : celC Γ ad k r = .inr (4, [.ref (ad 26), .int (r 1), .int (r 2)]) := by simp only [celC, h]
theorem ceC_5 {Γ : gG} {ad : Nat → Nat} {k : Nat} (h : gkd k = 5) (r : Nat → Int32) : celC Γ ad k r = .inr (5, [.ref (ad 192), .ref (ad 193), .ref (ad 194), .ref (ad 195), .ref (ad 196), .ref (ad 197), .ref (ad 198), .int (r 7), .int (r 8), .ref (ad ((r 9).toNatClampNeg))]) := by simp only [celC, h]
theorem ceC_6 {Γ : gG} {ad : Nat → Nat} {k : Nat} (h : gkd k = 6) (r : Nat → Int32) : celC Γ ad k r = .inr (6, [.int (r 0), .int (r 1), .int (r 2), .int (r 3)]) := by simp only [celC, h]
theorem ceC_7 {Γ : gG} {ad : Nat → Nat} {k : Nat} (h : gkd k = 7) (r : Nat → Int32) : celC Γ ad k r = .inr (7, [.ref (ad (k + 1)), .int (r 1)]) := by simp only [celC, h]
theorem ceC_8 {Γ : gG} {ad : Nat → Nat} {k : Nat} (h : gkd k = 8) (r : Nat → Int32) : celC Γ ad k r = .inr (8, [.ref (ad (k + 1)), .ref (ad (k + 2)), .ref (ad (k + 3)), .ref (ad (k + 4)), .ref (ad (k + 5)), .int (r 5)]) := by simp only [celC, h]
theorem ceC_9 {Γ : gG} {ad : Nat → Nat} {k : Nat} (h : gkd k = 9) (r : Nat → Int32) : celC Γ ad k r = .inr (9, [.ref (ad 1), .ref (ad 17), .ref (ad 20), .ref (ad 25), .ref (ad 171), .int (r 5), .ref (ad 187), .ref (ad 189), .ref (ad 191), .int (r 9), .int (r 10), .int (r 11)]) := by simp only [celC, h]
theorem ceC_106 {Γ : gG} {ad : Nat → Nat} {k : Nat} (h : gkd k = 106) (r : Nat → Int32) : celC Γ ad k r = .inl (Γ.2.1, 6, .inl r) := by simp only [celC, h]
theorem ceC_116 {Γ : gG} {ad : Nat → Nat} {k : Nat} (h : gkd k = 116) (r : Nat → Int32) : celC Γ ad k r = .inl (Γ.2.1, 16, .inl r) := by simp only [celC, h]
theorem ceC_120 {Γ : gG} {ad : Nat → Nat} {k : Nat} (h : gkd k = 120) (r : Nat → Int32) : celC Γ ad k r = .inl (Γ.2.1, 20, .inl r) := by simp only [celC, h]
theorem ceC_130 {Γ : gG} {ad : Nat → Nat} {k : Nat} (h : gkd k = 130) (r : Nat → Int32) : celC Γ ad k r = .inl (Γ.2.1, 30, .inl r) := by simp only [celC, h]
theorem ceC_160 {Γ : gG} {ad : Nat → Nat} {k : Nat} (h : gkd k = 160) (r : Nat → Int32) : celC Γ ad k r = .inl (Γ.2.1, 60, .inl r) := by simp only [celC, h]
theorem ceC_484 {Γ : gG} {ad : Nat → Nat} {k : Nat} (h : gkd k = 484) (r : Nat → Int32) : celC Γ ad k r = .inl (Γ.2.1, 384, .inl r) := by simp only [celC, h]
theorem ceC_30 {Γ : gG} {ad : Nat → Nat} {k : Nat} (h : gkd k = 30) (r : Nat → Int32) : celC Γ ad k r = .inl (Γ.2.2.2, 1, .inr (.inl (fun j => (r j).toInt64))) := by simp only [celC, h]
theorem ceC_209 {Γ : gG} {ad : Nat → Nat} {k : Nat} (h : gkd k = 209) (r : Nat → Int32) : celC Γ ad k r = .inl (Γ.2.2.1, 9, .inr (.inr (.inr (.inr (fun j => some (ad (gFx j))))))) := by simp only [celC, h]
theorem kd_lt {k c : Nat} (h : gkd k = c) (hc : c ≠ 99) : k < 203 := by
  rcases Nat.lt_or_ge k 203 with q | q
  · exact q
  · exfalso; apply hc; rw [← h]; unfold gkd; rw [List.getD_eq_getElem?_getD, List.getElem?_eq_none (by show 203 ≤ k; exact q)]; rfl
theorem kd_N {k c N : Nat} (h : gkd k = c) (hc : c ≠ 99 ∧ c ≠ 6) (hN : 202 ≤ N) : k < N := by
  have h1 := kd_lt h hc.1
  rcases Nat.lt_or_ge k 202 with q | q
  · omega
  · have : k = 202 := by omega
    subst this; exact absurd h.symm (by rw [show gkd 202 = 6 from rfl]; exact hc.2)
theorem kd_3_1 {k : Nat} (h : gkd k = 3) : gkd (k + 1) = 106 := by
  have h1 := kd_lt h (by decide)
  exact (by decide +kernel : ∀ k, k < 203 → gkd k = 3 → gkd (k + 1) = 106) k h1 h
theorem kd_3_2 {k : Nat} (h : gkd k = 3) : gkd (k + 2) = 0 := by
  have h1 := kd_lt h (by decide)
  exact (by decide +kernel : ∀ k, k < 203 → gkd k = 3 → gkd (k + 2) = 0) k h1 h
theorem kd_3_3 {k : Nat} (h : gkd k = 3) : gkd (k + 3) = 120 := by
  have h1 := kd_lt h (by decide)
  exact (by decide +kernel : ∀ k, k < 203 → gkd k = 3 → gkd (k + 3) = 120) k h1 h
theorem kd_3_4 {k : Nat} (h : gkd k = 3) : gkd (k + 4) = 8 := by
  have h1 := kd_lt h (by decide)
  exact (by decide +kernel : ∀ k, k < 203 → gkd k = 3 → gkd (k + 4) = 8) k h1 h
theorem kd_3_10 {k : Nat} (h : gkd k = 3) : gkd (k + 10) = 8 := by
  have h1 := kd_lt h (by decide)
  exact (by decide +kernel : ∀ k, k < 203 → gkd k = 3 → gkd (k + 10) = 8) k h1 h
theorem kd_0_1 {k : Nat} (h : gkd k = 0) : gkd (k + 1) = 120 := by
  have h1 := kd_lt h (by decide)
  exact (by decide +kernel : ∀ k, k < 203 → gkd k = 0 → gkd (k + 1) = 120) k h1 h
theorem kd_7_1 {k : Nat} (h : gkd k = 7) : gkd (k + 1) = 160 := by
  have h1 := kd_lt h (by decide)
  exact (by decide +kernel : ∀ k, k < 203 → gkd k = 7 → gkd (k + 1) = 160) k h1 h
theorem kd_8_1 {k : Nat} (h : gkd k = 8) : gkd (k + 1) = 116 := by
  have h1 := kd_lt h (by decide)
  exact (by decide +kernel : ∀ k, k < 203 → gkd k = 8 → gkd (k + 1) = 116) k h1 h
theorem kd_8_2 {k : Nat} (h : gkd k = 8) : gkd (k + 2) = 116 := by
  have h1 := kd_lt h (by decide)
  exact (by decide +kernel : ∀ k, k < 203 → gkd k = 8 → gkd (k + 2) = 116) k h1 h
theorem kd_8_3 {k : Nat} (h : gkd k = 8) : gkd (k + 3) = 116 := by
  have h1 := kd_lt h (by decide)
  exact (by decide +kernel : ∀ k, k < 203 → gkd k = 8 → gkd (k + 3) = 116) k h1 h
theorem kd_8_4 {k : Nat} (h : gkd k = 8) : gkd (k + 4) = 116 := by
  have h1 := kd_lt h (by decide)
  exact (by decide +kernel : ∀ k, k < 203 → gkd k = 8 → gkd (k + 4) = 116) k h1 h
theorem kd_8_5 {k : Nat} (h : gkd k = 8) : gkd (k + 5) = 484 := by
  have h1 := kd_lt h (by decide)
  exact (by decide +kernel : ∀ k, k < 203 → gkd k = 8 → gkd (k + 5) = 484) k h1 h
theorem kd_s0 : gkd 0 = 9 := by decide +kernel
theorem kd_s1 : gkd 1 = 3 := by decide +kernel
theorem kd_s17 : gkd 17 = 2 := by decide +kernel
theorem kd_s18 : gkd 18 = 7 := by decide +kernel
theorem kd_s20 : gkd 20 = 1 := by decide +kernel
theorem kd_s21 : gkd 21 = 7 := by decide +kernel
theorem kd_s23 : gkd 23 = 7 := by decide +kernel
theorem kd_s25 : gkd 25 = 4 := by decide +kernel
theorem kd_s26 : gkd 26 = 209 := by decide +kernel
theorem kd_s171 : gkd 171 = 3 := by decide +kernel
theorem kd_s187 : gkd 187 = 7 := by decide +kernel
theorem kd_s189 : gkd 189 = 7 := by decide +kernel
theorem kd_s191 : gkd 191 = 5 := by decide +kernel
theorem kd_s192 : gkd 192 = 130 := by decide +kernel
theorem kd_s193 : gkd 193 = 130 := by decide +kernel
theorem kd_s194 : gkd 194 = 130 := by decide +kernel
theorem kd_s195 : gkd 195 = 130 := by decide +kernel
theorem kd_s196 : gkd 196 = 130 := by decide +kernel
theorem kd_s197 : gkd 197 = 130 := by decide +kernel
theorem kd_s198 : gkd 198 = 130 := by decide +kernel
theorem kd_s199 : gkd 199 = 7 := by decide +kernel
theorem kd_s201 : gkd 201 = 30 := by decide +kernel
theorem kd_s202 : gkd 202 = 6 := by decide +kernel
theorem kd_fx {j : Nat} (h : j < 9) : gkd (gFx j) = 3 := (by decide +kernel : ∀ j, j < 9 → gkd (gFx j) = 3) j h
/-! ===== the cells of the reference: 0 the object, 1 g, 2 kept, 3 ahead, 4 past, 5 own, 6 text, 7 told ===== -/
def gkm (k : Nat) : Nat := [10, 1026, 1026, 1026, 7508, 128, 160, 280].getD k 99
def celM : gCell := fun Γ ad k r => match gkm k with
  | 10 => .inr (10, [.ref (ad 1), .ref (ad 2), .ref (ad 3), .int (r 3), .ref (ad 4), .int (r 5), .ref (ad 5), .int (r 7), .int (r 8), .int (r 9), .int (r 10), .ref (ad 6), .int (r 12), .int (r 13), .int (r 14), .ref (ad 7), .int (r 16)])
  | 1026 => .inl (Γ.2.1, 926, .inl r)
  | 7508 => .inl (Γ.2.1, 7408, .inl r)
  | 128 => .inl (Γ.2.1, 28, .inl r)
  | 160 => .inl (Γ.2.1, 60, .inl r)
  | 280 => .inl (Γ.2.1, 180, .inl r)
  | _ => .inr (0, [])
theorem ceM_10 {Γ : gG} {ad : Nat → Nat} (r : Nat → Int32) : celM Γ ad 0 r = .inr (10, [.ref (ad 1), .ref (ad 2), .ref (ad 3), .int (r 3), .ref (ad 4), .int (r 5), .ref (ad 5), .int (r 7), .int (r 8), .int (r 9), .int (r 10), .ref (ad 6), .int (r 12), .int (r 13), .int (r 14), .ref (ad 7), .int (r 16)]) := rfl
/-- a row of numbers of the reference, and how long it is -/
def gma (k : Nat) : Bool := decide (1 ≤ k ∧ k ≤ 7)
def gml (k : Nat) : Nat := gkm k - 100
theorem ceM_a {Γ : gG} {ad : Nat → Nat} {k : Nat} (h : gma k = true) (r : Nat → Int32) : celM Γ ad k r = .inl (Γ.2.1, gml k, .inl r) := by
  have h1 := of_decide_eq_true h
  rcases (show k = 1 ∨ k = 2 ∨ k = 3 ∨ k = 4 ∨ k = 5 ∨ k = 6 ∨ k = 7 by omega) with rfl | rfl | rfl | rfl | rfl | rfl | rfl <;> rfl
theorem km_N {k N : Nat} (h : gma k = true) (hN : 8 ≤ N) : k < N := by have h1 := of_decide_eq_true h; omega
/-! ===== words ===== -/
theorem inX0 : ∀ w ∈ u_ws RX0 TX0 2, w ∈ lwg := by decide +kernel
theorem inX1 : ∀ w ∈ u_ws RX1 TX1 4, w ∈ lwg := by decide +kernel
theorem inX2 : ∀ w ∈ u_ws RX2 TX2 2, w ∈ lwg := by decide +kernel
theorem inX3 : ∀ w ∈ u_ws RX3 TX3 5, w ∈ lwg := by decide +kernel
theorem inX4 : ∀ w ∈ u_ws RX4 TX4 3, w ∈ lwg := by decide +kernel
theorem inX5 : ∀ w ∈ u_ws RX5 TX5 10, w ∈ lwg := by decide +kernel
theorem inX6 : ∀ w ∈ u_ws RX6 TX6 4, w ∈ lwg := by decide +kernel
theorem inX7 : ∀ w ∈ u_ws RX7 TX7 2, w ∈ lwg := by decide +kernel
theorem inX8 : ∀ w ∈ u_ws RX8 TX8 6, w ∈ lwg := by decide +kernel
theorem inX9 : ∀ w ∈ u_ws RX9 TX9 12, w ∈ lwg := by decide +kernel
theorem inX10 : ∀ w ∈ u_ws RX10 TX10 17, w ∈ lwg := by decide +kernel
theorem mlX9_1 : Cond.methodLink RX9 1 objectInit ∈ lwg := gq 90 (by decide +kernel) rfl
theorem mlX9_9 : Cond.methodLink RX9 9 yX3_init ∈ lwg := gq 95 (by decide +kernel) rfl
theorem mlX9_18 : Cond.methodLink RX9 18 yX2_init ∈ lwg := gq 172 (by decide +kernel) rfl
theorem mlX9_27 : Cond.methodLink RX9 27 yX1_init ∈ lwg := gq 201 (by decide +kernel) rfl
theorem mlX9_36 : Cond.methodLink RX9 36 yX4_init ∈ lwg := gq 222 (by decide +kernel) rfl
theorem mlX9_50 : Cond.methodLink RX9 50 yX7_init ∈ lwg := gq 241 (by decide +kernel) rfl
theorem mlX9_60 : Cond.methodLink RX9 60 yX5_init ∈ lwg := gq 244 (by decide +kernel) rfl
theorem mlX9_82 : Cond.methodLink RX9 82 yX3_lengthRefusal ∈ lwg := gq 423 (by decide +kernel) rfl
theorem mlX9_86 : Cond.methodLink RX9 86 yX9_passOrRefuse ∈ lwg := gq 443 (by decide +kernel) rfl
theorem mlX9_90 : Cond.methodLink RX9 90 yX4_keep ∈ lwg := gq 467 (by decide +kernel) rfl
theorem mlX9_96 : Cond.methodLink RX9 96 yX9_isSettingValue ∈ lwg := gq 494 (by decide +kernel) rfl
theorem mlX9_102 : Cond.methodLink RX9 102 yX3_changeSetting ∈ lwg := gq 505 (by decide +kernel) rfl
theorem mlX9_106 : Cond.methodLink RX9 106 yX3_canBeCut ∈ lwg := gq 546 (by decide +kernel) rfl
theorem mlX9_119 : Cond.methodLink RX9 119 yX0_lacksRoomFor ∈ lwg := gq 563 (by decide +kernel) rfl
theorem mlX9_129 : Cond.methodLink RX9 129 yX0_make ∈ lwg := gq 591 (by decide +kernel) rfl
theorem mlX9_132 : Cond.methodLink RX9 132 yX0_takeAway ∈ lwg := gq 595 (by decide +kernel) rfl
theorem mlX9_138 : Cond.methodLink RX9 138 yX3_trackOf ∈ lwg := gq 606 (by decide +kernel) rfl
theorem mlX9_145 : Cond.methodLink RX9 145 yX2_framesOfBoth ∈ lwg := gq 607 (by decide +kernel) rfl
theorem mlX9_149 : Cond.methodLink RX9 149 yX2_captionsWith ∈ lwg := gq 629 (by decide +kernel) rfl
theorem mlX9_156 : Cond.methodLink RX9 156 yX9_isSetting ∈ lwg := gq 497 (by decide +kernel) rfl
theorem mlX9_161 : Cond.methodLink RX9 161 yX3_setting ∈ lwg := gq 709 (by decide +kernel) rfl
theorem mlX9_164 : Cond.methodLink RX9 164 yX3_hasFrame ∈ lwg := gq 717 (by decide +kernel) rfl
theorem mlX9_169 : Cond.methodLink RX9 169 yX0_upTo ∈ lwg := gq 722 (by decide +kernel) rfl
theorem mlX9_172 : Cond.methodLink RX9 172 yX7_append ∈ lwg := gq 730 (by decide +kernel) rfl
theorem mlX9_177 : Cond.methodLink RX9 177 yX7_clear ∈ lwg := gq 742 (by decide +kernel) rfl
theorem mlX9_180 : Cond.methodLink RX9 180 yX7_appendPart ∈ lwg := gq 746 (by decide +kernel) rfl
theorem mlX9_184 : Cond.methodLink RX9 184 yX9_requireTrack ∈ lwg := gq 755 (by decide +kernel) rfl
theorem mlX9_189 : Cond.methodLink RX9 189 yX3_addRefusal ∈ lwg := gq 764 (by decide +kernel) rfl
theorem mlX9_193 : Cond.methodLink RX9 193 yX8_insertCaption ∈ lwg := gq 788 (by decide +kernel) rfl
theorem mlX9_196 : Cond.methodLink RX9 196 yX9_requireCaption ∈ lwg := gq 815 (by decide +kernel) rfl
theorem mlX9_200 : Cond.methodLink RX9 200 yX8_closeRow ∈ lwg := gq 821 (by decide +kernel) rfl
theorem mlX9_203 : Cond.methodLink RX9 203 yX3_placeRefusal ∈ lwg := gq 832 (by decide +kernel) rfl
theorem mlX9_207 : Cond.methodLink RX9 207 yX1_placeCaption ∈ lwg := gq 833 (by decide +kernel) rfl
theorem mlX9_210 : Cond.methodLink RX9 210 yX8_size ∈ lwg := gq 855 (by decide +kernel) rfl
theorem mlX9_214 : Cond.methodLink RX9 214 yX1_splitRefusal ∈ lwg := gq 857 (by decide +kernel) rfl
theorem mlX9_218 : Cond.methodLink RX9 218 yX1_splitCaption ∈ lwg := gq 874 (by decide +kernel) rfl
theorem mlX9_221 : Cond.methodLink RX9 221 yX2_mergeRefusal ∈ lwg := gq 889 (by decide +kernel) rfl
theorem mlX9_224 : Cond.methodLink RX9 224 yX1_mergeCaption ∈ lwg := gq 903 (by decide +kernel) rfl
theorem mlX9_227 : Cond.methodLink RX9 227 yX1_snapRefusal ∈ lwg := gq 916 (by decide +kernel) rfl
theorem mlX9_230 : Cond.methodLink RX9 230 yX1_snapCaption ∈ lwg := gq 927 (by decide +kernel) rfl
theorem mlX9_233 : Cond.methodLink RX9 233 yX1_fitCaption ∈ lwg := gq 939 (by decide +kernel) rfl
theorem mlX9_236 : Cond.methodLink RX9 236 yX9_arePoints ∈ lwg := gq 958 (by decide +kernel) rfl
theorem mlX9_244 : Cond.methodLink RX9 244 yX6_init ∈ lwg := gq 967 (by decide +kernel) rfl
theorem mlX9_247 : Cond.methodLink RX9 247 yX1_retimeRefusal ∈ lwg := gq 985 (by decide +kernel) rfl
theorem mlX9_251 : Cond.methodLink RX9 251 yX1_retimeCaptions ∈ lwg := gq 1000 (by decide +kernel) rfl
theorem mlX9_254 : Cond.methodLink RX9 254 yX8_first ∈ lwg := gq 1011 (by decide +kernel) rfl
theorem mlX9_257 : Cond.methodLink RX9 257 yX8_end ∈ lwg := gq 1012 (by decide +kernel) rfl
theorem mlX9_260 : Cond.methodLink RX9 260 yX8_kind ∈ lwg := gq 1013 (by decide +kernel) rfl
theorem mlX9_263 : Cond.methodLink RX9 263 yX8_load ∈ lwg := gq 1014 (by decide +kernel) rfl
theorem mlX9_266 : Cond.methodLink RX9 266 yX2_needs ∈ lwg := gq 1015 (by decide +kernel) rfl
theorem mlX9_269 : Cond.methodLink RX9 269 yX2_problems ∈ lwg := gq 1016 (by decide +kernel) rfl
theorem mlX9_272 : Cond.methodLink RX9 272 yX2_partner ∈ lwg := gq 1017 (by decide +kernel) rfl
theorem mlX9_275 : Cond.methodLink RX9 275 yX8_longestLine ∈ lwg := gq 1018 (by decide +kernel) rfl
theorem mlX9_278 : Cond.methodLink RX9 278 yX2_cutsWithin ∈ lwg := gq 1019 (by decide +kernel) rfl
theorem mlX9_281 : Cond.methodLink RX9 281 yX8_gapBefore ∈ lwg := gq 1024 (by decide +kernel) rfl
theorem mlX9_284 : Cond.methodLink RX9 284 yX2_sharedWithPartner ∈ lwg := gq 1025 (by decide +kernel) rfl
theorem mlX9_287 : Cond.methodLink RX9 287 yX8_signAt ∈ lwg := gq 1037 (by decide +kernel) rfl
theorem mlX9_293 : Cond.methodLink RX9 293 yX8_captionOn ∈ lwg := gq 1060 (by decide +kernel) rfl
theorem mlX9_298 : Cond.methodLink RX9 298 yX8_allFrames ∈ lwg := gq 1072 (by decide +kernel) rfl
theorem mlX9_301 : Cond.methodLink RX9 301 yX8_allLoad ∈ lwg := gq 1077 (by decide +kernel) rfl
theorem mlX9_304 : Cond.methodLink RX9 304 yX2_captionsOverCuts ∈ lwg := gq 1082 (by decide +kernel) rfl
theorem mlX9_307 : Cond.methodLink RX9 307 yX2_captionsToMerge ∈ lwg := gq 1087 (by decide +kernel) rfl
theorem mlX9_310 : Cond.methodLink RX9 310 yX8_densest ∈ lwg := gq 1099 (by decide +kernel) rfl
theorem mlX9_320 : Cond.methodLink RX9 320 yX5_readText ∈ lwg := gq 1135 (by decide +kernel) rfl
theorem mlX9_324 : Cond.methodLink RX9 324 yX9_carryOutItems ∈ lwg := gq 1175 (by decide +kernel) rfl
theorem mlX9_345 : Cond.methodLink RX9 345 yX4_undoInto ∈ lwg := gq 1251 (by decide +kernel) rfl
theorem mlX9_348 : Cond.methodLink RX9 348 yX3_copyFrom ∈ lwg := gq 324 (by decide +kernel) rfl
theorem mlX9_351 : Cond.methodLink RX9 351 yX3_captionCount ∈ lwg := gq 338 (by decide +kernel) rfl
theorem mlX9_356 : Cond.methodLink RX9 356 yX4_forgetAll ∈ lwg := gq 1264 (by decide +kernel) rfl
theorem mlX9_359 : Cond.methodLink RX9 359 yX9_isTrack ∈ lwg := gq 759 (by decide +kernel) rfl
theorem mlX9_364 : Cond.methodLink RX9 364 yX8_has ∈ lwg := gq 819 (by decide +kernel) rfl
theorem mlX9_369 : Cond.methodLink RX9 369 yX9_keepRefusal ∈ lwg := gq 447 (by decide +kernel) rfl
theorem mlX9_374 : Cond.methodLink RX9 374 yX4_prepare ∈ lwg := gq 1179 (by decide +kernel) rfl
theorem mlX9_377 : Cond.methodLink RX9 377 yX9_carryOutItem ∈ lwg := gq 1180 (by decide +kernel) rfl
theorem mlX9_380 : Cond.methodLink RX9 380 yX4_takeBackInto ∈ lwg := gq 1220 (by decide +kernel) rfl
theorem mlX9_383 : Cond.methodLink RX9 383 yX4_commit ∈ lwg := gq 1224 (by decide +kernel) rfl
theorem mlX9_386 : Cond.methodLink RX9 386 yX5_what ∈ lwg := gq 1184 (by decide +kernel) rfl
theorem mlX9_389 : Cond.methodLink RX9 389 yX5_first ∈ lwg := gq 1188 (by decide +kernel) rfl
theorem mlX9_390 : Cond.methodLink RX9 390 yX1_carryOutCut ∈ lwg := gq 1192 (by decide +kernel) rfl
theorem mlX9_394 : Cond.methodLink RX9 394 yX5_wordsFrom ∈ lwg := gq 1200 (by decide +kernel) rfl
theorem mlX9_397 : Cond.methodLink RX9 397 yX5_wordsTo ∈ lwg := gq 1204 (by decide +kernel) rfl
theorem mlX9_400 : Cond.methodLink RX9 400 yX5_trackOfItem ∈ lwg := gq 1208 (by decide +kernel) rfl
theorem mlX9_403 : Cond.methodLink RX9 403 yX5_end ∈ lwg := gq 1212 (by decide +kernel) rfl
theorem mlX9_404 : Cond.methodLink RX9 404 yX5_kind ∈ lwg := gq 1216 (by decide +kernel) rfl
theorem mlX9_412 : Cond.methodLink RX9 412 yX9_isPointFrame ∈ lwg := gq 961 (by decide +kernel) rfl
theorem mlX9_415 : Cond.methodLink RX9 415 Lib.Math.abs.name ∈ lwg := gq 683 (by decide +kernel) rfl
theorem mlX0_3 : Cond.methodLink RX0 3 objectInit ∈ lwg := gq 109 (by decide +kernel) rfl
theorem mlX0_19 : Cond.methodLink RX0 19 arraycopyName ∈ lwg := gq 332 (by decide +kernel) rfl
theorem mlX0_25 : Cond.methodLink RX0 25 yX0_upTo ∈ lwg := gq 571 (by decide +kernel) rfl
theorem mlX0_29 : Cond.methodLink RX0 29 yX0_at ∈ lwg := gq 679 (by decide +kernel) rfl
theorem mlX0_36 : Cond.methodLink RX0 36 yX0_holds ∈ lwg := gq 567 (by decide +kernel) rfl
theorem mlX1_3 : Cond.methodLink RX1 3 objectInit ∈ lwg := gq 204 (by decide +kernel) rfl
theorem mlX1_21 : Cond.methodLink RX1 21 yX7_init ∈ lwg := gq 206 (by decide +kernel) rfl
theorem mlX1_29 : Cond.methodLink RX1 29 yX3_trackOf ∈ lwg := gq 837 (by decide +kernel) rfl
theorem mlX1_35 : Cond.methodLink RX1 35 yX8_kind ∈ lwg := gq 838 (by decide +kernel) rfl
theorem mlX1_41 : Cond.methodLink RX1 41 yX7_clear ∈ lwg := gq 839 (by decide +kernel) rfl
theorem mlX1_44 : Cond.methodLink RX1 44 yX8_size ∈ lwg := gq 840 (by decide +kernel) rfl
theorem mlX1_47 : Cond.methodLink RX1 47 yX8_appendTextTo ∈ lwg := gq 841 (by decide +kernel) rfl
theorem mlX1_51 : Cond.methodLink RX1 51 yX8_closeRow ∈ lwg := gq 846 (by decide +kernel) rfl
theorem mlX1_55 : Cond.methodLink RX1 55 yX8_insertCaption ∈ lwg := gq 847 (by decide +kernel) rfl
theorem mlX1_59 : Cond.methodLink RX1 59 yX8_signAt ∈ lwg := gq 861 (by decide +kernel) rfl
theorem mlX1_63 : Cond.methodLink RX1 63 yX1_divideText ∈ lwg := gq 862 (by decide +kernel) rfl
theorem mlX1_67 : Cond.methodLink RX1 67 yX7_isValid ∈ lwg := gq 866 (by decide +kernel) rfl
theorem mlX1_71 : Cond.methodLink RX1 71 yX1_framesOfHead ∈ lwg := gq 867 (by decide +kernel) rfl
theorem mlX1_75 : Cond.methodLink RX1 75 yX8_frames ∈ lwg := gq 872 (by decide +kernel) rfl
theorem mlX1_82 : Cond.methodLink RX1 82 yX8_first ∈ lwg := gq 878 (by decide +kernel) rfl
theorem mlX1_85 : Cond.methodLink RX1 85 yX8_end ∈ lwg := gq 879 (by decide +kernel) rfl
theorem mlX1_88 : Cond.methodLink RX1 88 yX8_setFrames ∈ lwg := gq 880 (by decide +kernel) rfl
theorem mlX1_92 : Cond.methodLink RX1 92 yX8_setText ∈ lwg := gq 881 (by decide +kernel) rfl
theorem mlX1_96 : Cond.methodLink RX1 96 yX8_loadBetween ∈ lwg := gq 871 (by decide +kernel) rfl
theorem mlX1_100 : Cond.methodLink RX1 100 Lib.Math.max.name ∈ lwg := gq 873 (by decide +kernel) rfl
theorem mlX1_105 : Cond.methodLink RX1 105 yX2_joinWithNext ∈ lwg := gq 907 (by decide +kernel) rfl
theorem mlX1_111 : Cond.methodLink RX1 111 yX8_load ∈ lwg := gq 908 (by decide +kernel) rfl
theorem mlX1_114 : Cond.methodLink RX1 114 yX3_isLoose ∈ lwg := gq 924 (by decide +kernel) rfl
theorem mlX1_122 : Cond.methodLink RX1 122 yX0_nearest ∈ lwg := gq 925 (by decide +kernel) rfl
theorem mlX1_127 : Cond.methodLink RX1 127 yX1_snapped ∈ lwg := gq 920 (by decide +kernel) rfl
theorem mlX1_130 : Cond.methodLink RX1 130 yX3_placeRefusal ∈ lwg := gq 926 (by decide +kernel) rfl
theorem mlX1_134 : Cond.methodLink RX1 134 yX1_placeCaption ∈ lwg := gq 931 (by decide +kernel) rfl
theorem mlX1_140 : Cond.methodLink RX1 140 yX2_needs ∈ lwg := gq 943 (by decide +kernel) rfl
theorem mlX1_143 : Cond.methodLink RX1 143 Lib.Math.min.name ∈ lwg := gq 944 (by decide +kernel) rfl
theorem mlX1_146 : Cond.methodLink RX1 146 yX8_has ∈ lwg := gq 945 (by decide +kernel) rfl
theorem mlX1_149 : Cond.methodLink RX1 149 yX3_setting ∈ lwg := gq 946 (by decide +kernel) rfl
theorem mlX1_152 : Cond.methodLink RX1 152 yX0_firstFrom ∈ lwg := gq 947 (by decide +kernel) rfl
theorem mlX1_155 : Cond.methodLink RX1 155 yX1_isMeant ∈ lwg := gq 989 (by decide +kernel) rfl
theorem mlX1_159 : Cond.methodLink RX1 159 yX6_frameFor ∈ lwg := gq 992 (by decide +kernel) rfl
theorem mlX1_164 : Cond.methodLink RX1 164 yX3_spanRefusal ∈ lwg := gq 999 (by decide +kernel) rfl
theorem mlX1_167 : Cond.methodLink RX1 167 yX3_canBeCut ∈ lwg := gq 1196 (by decide +kernel) rfl
theorem mlX1_170 : Cond.methodLink RX1 170 yX0_takeAway ∈ lwg := gq 1197 (by decide +kernel) rfl
theorem mlX1_173 : Cond.methodLink RX1 173 yX0_lacksRoomFor ∈ lwg := gq 1198 (by decide +kernel) rfl
theorem mlX1_176 : Cond.methodLink RX1 176 yX0_make ∈ lwg := gq 1199 (by decide +kernel) rfl
theorem mlX2_3 : Cond.methodLink RX2 3 objectInit ∈ lwg := gq 175 (by decide +kernel) rfl
theorem mlX2_17 : Cond.methodLink RX2 17 yX7_init ∈ lwg := gq 178 (by decide +kernel) rfl
theorem mlX2_22 : Cond.methodLink RX2 22 yX3_trackOf ∈ lwg := gq 611 (by decide +kernel) rfl
theorem mlX2_28 : Cond.methodLink RX2 28 yX8_kind ∈ lwg := gq 647 (by decide +kernel) rfl
theorem mlX2_34 : Cond.methodLink RX2 34 yX8_load ∈ lwg := gq 651 (by decide +kernel) rfl
theorem mlX2_37 : Cond.methodLink RX2 37 yX3_setting ∈ lwg := gq 667 (by decide +kernel) rfl
theorem mlX2_44 : Cond.methodLink RX2 44 yX3_trackBeside ∈ lwg := gq 612 (by decide +kernel) rfl
theorem mlX2_51 : Cond.methodLink RX2 51 yX8_first ∈ lwg := gq 616 (by decide +kernel) rfl
theorem mlX2_54 : Cond.methodLink RX2 54 yX8_end ∈ lwg := gq 620 (by decide +kernel) rfl
theorem mlX2_57 : Cond.methodLink RX2 57 yX8_shared ∈ lwg := gq 621 (by decide +kernel) rfl
theorem mlX2_61 : Cond.methodLink RX2 61 yX2_partner ∈ lwg := gq 703 (by decide +kernel) rfl
theorem mlX2_67 : Cond.methodLink RX2 67 yX8_gapBefore ∈ lwg := gq 691 (by decide +kernel) rfl
theorem mlX2_70 : Cond.methodLink RX2 70 yX8_frames ∈ lwg := gq 637 (by decide +kernel) rfl
theorem mlX2_73 : Cond.methodLink RX2 73 yX2_needs ∈ lwg := gq 643 (by decide +kernel) rfl
theorem mlX2_76 : Cond.methodLink RX2 76 yX3_isLoose ∈ lwg := gq 671 (by decide +kernel) rfl
theorem mlX2_80 : Cond.methodLink RX2 80 yX2_isTight ∈ lwg := gq 687 (by decide +kernel) rfl
theorem mlX2_84 : Cond.methodLink RX2 84 yX8_longestLine ∈ lwg := gq 695 (by decide +kernel) rfl
theorem mlX2_87 : Cond.methodLink RX2 87 yX2_isInStep ∈ lwg := gq 699 (by decide +kernel) rfl
theorem mlX2_90 : Cond.methodLink RX2 90 yX2_problems ∈ lwg := gq 633 (by decide +kernel) rfl
theorem mlX2_97 : Cond.methodLink RX2 97 yX0_upTo ∈ lwg := gq 1023 (by decide +kernel) rfl
theorem mlX2_102 : Cond.methodLink RX2 102 yX2_cutsWithin ∈ lwg := gq 1086 (by decide +kernel) rfl
theorem mlX2_105 : Cond.methodLink RX2 105 yX2_mergeRefusal ∈ lwg := gq 1091 (by decide +kernel) rfl
theorem mlX2_108 : Cond.methodLink RX2 108 yX8_has ∈ lwg := gq 893 (by decide +kernel) rfl
theorem mlX2_111 : Cond.methodLink RX2 111 yX2_joinWithNext ∈ lwg := gq 894 (by decide +kernel) rfl
theorem mlX2_115 : Cond.methodLink RX2 115 yX7_isValid ∈ lwg := gq 902 (by decide +kernel) rfl
theorem mlX2_119 : Cond.methodLink RX2 119 yX7_clear ∈ lwg := gq 898 (by decide +kernel) rfl
theorem mlX2_122 : Cond.methodLink RX2 122 yX8_size ∈ lwg := gq 899 (by decide +kernel) rfl
theorem mlX2_125 : Cond.methodLink RX2 125 yX8_appendTextTo ∈ lwg := gq 900 (by decide +kernel) rfl
theorem mlX2_129 : Cond.methodLink RX2 129 yX7_append ∈ lwg := gq 901 (by decide +kernel) rfl
theorem mlX3_3 : Cond.methodLink RX3 3 objectInit ∈ lwg := gq 98 (by decide +kernel) rfl
theorem mlX3_22 : Cond.methodLink RX3 22 arraycopyName ∈ lwg := gq 101 (by decide +kernel) rfl
theorem mlX3_30 : Cond.methodLink RX3 30 yX0_init ∈ lwg := gq 106 (by decide +kernel) rfl
theorem mlX3_37 : Cond.methodLink RX3 37 yX8_init ∈ lwg := gq 122 (by decide +kernel) rfl
theorem mlX3_45 : Cond.methodLink RX3 45 yX0_copyFrom ∈ lwg := gq 328 (by decide +kernel) rfl
theorem mlX3_49 : Cond.methodLink RX3 49 yX8_copyFrom ∈ lwg := gq 333 (by decide +kernel) rfl
theorem mlX3_59 : Cond.methodLink RX3 59 yX3_setting ∈ lwg := gq 509 (by decide +kernel) rfl
theorem mlX3_63 : Cond.methodLink RX3 63 yX0_nearest ∈ lwg := gq 675 (by decide +kernel) rfl
theorem mlX3_70 : Cond.methodLink RX3 70 yX3_trackOf ∈ lwg := gq 427 (by decide +kernel) rfl
theorem mlX3_74 : Cond.methodLink RX3 74 yX8_end ∈ lwg := gq 431 (by decide +kernel) rfl
theorem mlX3_78 : Cond.methodLink RX3 78 yX0_at ∈ lwg := gq 439 (by decide +kernel) rfl
theorem mlX3_81 : Cond.methodLink RX3 81 yX3_spanRefusal ∈ lwg := gq 772 (by decide +kernel) rfl
theorem mlX3_84 : Cond.methodLink RX3 84 yX8_sharesWithOthers ∈ lwg := gq 776 (by decide +kernel) rfl
theorem mlX3_88 : Cond.methodLink RX3 88 yX3_placeRefusal ∈ lwg := gq 768 (by decide +kernel) rfl
theorem mlX3_92 : Cond.methodLink RX3 92 yX7_isValid ∈ lwg := gq 781 (by decide +kernel) rfl
theorem mlX4_3 : Cond.methodLink RX4 3 objectInit ∈ lwg := gq 225 (by decide +kernel) rfl
theorem mlX4_17 : Cond.methodLink RX4 17 yX3_init ∈ lwg := gq 228 (by decide +kernel) rfl
theorem mlX4_25 : Cond.methodLink RX4 25 yX4_prepare ∈ lwg := gq 471 (by decide +kernel) rfl
theorem mlX4_29 : Cond.methodLink RX4 29 yX4_commit ∈ lwg := gq 480 (by decide +kernel) rfl
theorem mlX4_32 : Cond.methodLink RX4 32 yX4_rowAt ∈ lwg := gq 475 (by decide +kernel) rfl
theorem mlX4_36 : Cond.methodLink RX4 36 yX3_copyFrom ∈ lwg := gq 479 (by decide +kernel) rfl
theorem mlX4_39 : Cond.methodLink RX4 39 Lib.Math.min.name ∈ lwg := gq 484 (by decide +kernel) rfl
theorem mlX4_45 : Cond.methodLink RX4 45 yX4_takeBackInto ∈ lwg := gq 1255 (by decide +kernel) rfl
theorem mlX5_3 : Cond.methodLink RX5 3 objectInit ∈ lwg := gq 247 (by decide +kernel) rfl
theorem mlX5_42 : Cond.methodLink RX5 42 yX7_init ∈ lwg := gq 249 (by decide +kernel) rfl
theorem mlX5_47 : Cond.methodLink RX5 47 yX5_isItem ∈ lwg := gq 1159 (by decide +kernel) rfl
theorem mlX5_51 : Cond.methodLink RX5 51 yX5_readItem ∈ lwg := gq 1139 (by decide +kernel) rfl
theorem mlX5_57 : Cond.methodLink RX5 57 yX5_takeSign ∈ lwg := gq 1143 (by decide +kernel) rfl
theorem mlX5_60 : Cond.methodLink RX5 60 yX5_readCut ∈ lwg := gq 1148 (by decide +kernel) rfl
theorem mlX5_64 : Cond.methodLink RX5 64 yX5_readCaption ∈ lwg := gq 1162 (by decide +kernel) rfl
theorem mlX5_67 : Cond.methodLink RX5 67 yX5_readNumber ∈ lwg := gq 1152 (by decide +kernel) rfl
theorem mlX5_71 : Cond.methodLink RX5 71 yX5_takeOneOf ∈ lwg := gq 1166 (by decide +kernel) rfl
theorem mlX5_75 : Cond.methodLink RX5 75 yX5_skipWords ∈ lwg := gq 1170 (by decide +kernel) rfl
theorem mlX5_78 : Cond.methodLink RX5 78 yX7_signAt ∈ lwg := gq 1147 (by decide +kernel) rfl
theorem mlX5_82 : Cond.methodLink RX5 82 yX5_isDigit ∈ lwg := gq 1156 (by decide +kernel) rfl
theorem mlX6_1 : Cond.methodLink RX6 1 objectInit ∈ lwg := gq 970 (by decide +kernel) rfl
theorem mlX6_16 : Cond.methodLink RX6 16 Lib.Math.abs.name ∈ lwg := gq 971 (by decide +kernel) rfl
theorem mlX6_28 : Cond.methodLink RX6 28 yJ9_floorDiv_7cf53 ∈ lwg := gq 996 (by decide +kernel) rfl
theorem mlX7_3 : Cond.methodLink RX7 3 objectInit ∈ lwg := gq 181 (by decide +kernel) rfl
theorem mlX7_19 : Cond.methodLink RX7 19 yX7_signAt ∈ lwg := gq 750 (by decide +kernel) rfl
theorem mlX7_23 : Cond.methodLink RX7 23 yX7_append ∈ lwg := gq 754 (by decide +kernel) rfl
theorem mlX8_3 : Cond.methodLink RX8 3 objectInit ∈ lwg := gq 125 (by decide +kernel) rfl
theorem mlX8_31 : Cond.methodLink RX8 31 arraycopyName ∈ lwg := gq 337 (by decide +kernel) rfl
theorem mlX8_37 : Cond.methodLink RX8 37 yX8_has ∈ lwg := gq 435 (by decide +kernel) rfl
theorem mlX8_41 : Cond.methodLink RX8 41 yX8_end ∈ lwg := gq 641 (by decide +kernel) rfl
theorem mlX8_45 : Cond.methodLink RX8 45 yX8_first ∈ lwg := gq 642 (by decide +kernel) rfl
theorem mlX8_48 : Cond.methodLink RX8 48 yX8_size ∈ lwg := gq 655 (by decide +kernel) rfl
theorem mlX8_51 : Cond.methodLink RX8 51 yX8_loadBetween ∈ lwg := gq 659 (by decide +kernel) rfl
theorem mlX8_55 : Cond.methodLink RX8 55 yX8_signAt ∈ lwg := gq 663 (by decide +kernel) rfl
theorem mlX8_59 : Cond.methodLink RX8 59 Lib.Math.max.name ∈ lwg := gq 626 (by decide +kernel) rfl
theorem mlX8_64 : Cond.methodLink RX8 64 Lib.Math.min.name ∈ lwg := gq 625 (by decide +kernel) rfl
theorem mlX8_67 : Cond.methodLink RX8 67 yX8_shared ∈ lwg := gq 780 (by decide +kernel) rfl
theorem mlX8_70 : Cond.methodLink RX8 70 yX8_frames ∈ lwg := gq 1076 (by decide +kernel) rfl
theorem mlX8_73 : Cond.methodLink RX8 73 yX8_load ∈ lwg := gq 1081 (by decide +kernel) rfl
theorem mlX8_76 : Cond.methodLink RX8 76 yX7_append ∈ lwg := gq 845 (by decide +kernel) rfl
theorem mlX8_83 : Cond.methodLink RX8 83 yX7_signAt ∈ lwg := gq 807 (by decide +kernel) rfl
theorem mlX8_85 : Cond.methodLink RX8 85 yX8_isRow ∈ lwg := gq 792 (by decide +kernel) rfl
theorem mlX8_88 : Cond.methodLink RX8 88 yX8_copyRow ∈ lwg := gq 795 (by decide +kernel) rfl
theorem mlX8_92 : Cond.methodLink RX8 92 yX8_setFrames ∈ lwg := gq 799 (by decide +kernel) rfl
theorem mlX8_96 : Cond.methodLink RX8 96 yX8_setText ∈ lwg := gq 803 (by decide +kernel) rfl
theorem mlL_7 : Cond.methodLink RL 7 yX9_film ∈ lwg := gq 347 (by decide +kernel) rfl
theorem mlL_17 : Cond.methodLink RL 17 yX9_set ∈ lwg := gq 490 (by decide +kernel) rfl
theorem mlL_21 : Cond.methodLink RL 21 yX9_cut ∈ lwg := gq 542 (by decide +kernel) rfl
theorem mlL_29 : Cond.methodLink RL 29 yX9_number ∈ lwg := gq 602 (by decide +kernel) rfl
theorem mlL_32 : Cond.methodLink RL 32 yX9_shot ∈ lwg := gq 713 (by decide +kernel) rfl
theorem mlL_35 : Cond.methodLink RL 35 yX9_feed ∈ lwg := gq 726 (by decide +kernel) rfl
theorem mlL_39 : Cond.methodLink RL 39 yX9_add ∈ lwg := gq 738 (by decide +kernel) rfl
theorem mlL_43 : Cond.methodLink RL 43 yX9_remove ∈ lwg := gq 811 (by decide +kernel) rfl
theorem mlL_46 : Cond.methodLink RL 46 yX9_move ∈ lwg := gq 828 (by decide +kernel) rfl
theorem mlL_49 : Cond.methodLink RL 49 yX9_split ∈ lwg := gq 851 (by decide +kernel) rfl
theorem mlL_53 : Cond.methodLink RL 53 yX9_merge ∈ lwg := gq 885 (by decide +kernel) rfl
theorem mlL_56 : Cond.methodLink RL 56 yX9_snap ∈ lwg := gq 912 (by decide +kernel) rfl
theorem mlL_59 : Cond.methodLink RL 59 yX9_fit ∈ lwg := gq 935 (by decide +kernel) rfl
theorem mlL_62 : Cond.methodLink RL 62 yX9_retime ∈ lwg := gq 954 (by decide +kernel) rfl
theorem mlL_66 : Cond.methodLink RL 66 yX9_caption ∈ lwg := gq 1007 (by decide +kernel) rfl
theorem mlL_69 : Cond.methodLink RL 69 yX9_letter ∈ lwg := gq 1033 (by decide +kernel) rfl
theorem mlL_75 : Cond.methodLink RL 75 yX9_shown ∈ lwg := gq 1056 (by decide +kernel) rfl
theorem mlL_78 : Cond.methodLink RL 78 yX9_track ∈ lwg := gq 1068 (by decide +kernel) rfl
theorem mlL_81 : Cond.methodLink RL 81 yX9_fastest ∈ lwg := gq 1095 (by decide +kernel) rfl
theorem mlL_84 : Cond.methodLink RL 84 yX9_speed ∈ lwg := gq 1121 (by decide +kernel) rfl
theorem mlL_90 : Cond.methodLink RL 90 yX9_read ∈ lwg := gq 1131 (by decide +kernel) rfl
theorem mlL_94 : Cond.methodLink RL 94 yX9_faultPosition ∈ lwg := gq 1230 (by decide +kernel) rfl
theorem mlL_97 : Cond.methodLink RL 97 yX9_refusal ∈ lwg := gq 1238 (by decide +kernel) rfl
theorem mlL_101 : Cond.methodLink RL 101 yX9_undo ∈ lwg := gq 1246 (by decide +kernel) rfl
theorem mlL_104 : Cond.methodLink RL 104 yX9_restoreSnapshot ∈ lwg := gq 1259 (by decide +kernel) rfl
theorem mlL_107 : Cond.methodLink RL 107 yX9_init ∈ lwg := gq 87 (by decide +kernel) rfl
theorem mlL_110 : Cond.methodLink RL 110 yX10_init ∈ lwg := gq 1270 (by decide +kernel) rfl
theorem mlL_111 : Cond.methodLink RL 111 yL_film ∈ lwg := gq 342 (by decide +kernel) rfl
theorem mlL_116 : Cond.methodLink RL 116 yX10_film ∈ lwg := gq 1345 (by decide +kernel) rfl
theorem mlL_117 : Cond.methodLink RL 117 yX10_thrown ∈ lwg := gq 1326 (by decide +kernel) rfl
theorem mlL_120 : Cond.methodLink RL 120 yL_set ∈ lwg := gq 487 (by decide +kernel) rfl
theorem mlL_123 : Cond.methodLink RL 123 yX10_set ∈ lwg := gq 1371 (by decide +kernel) rfl
theorem mlL_124 : Cond.methodLink RL 124 yL_cut ∈ lwg := gq 514 (by decide +kernel) rfl
theorem mlL_127 : Cond.methodLink RL 127 yX10_cut ∈ lwg := gq 1378 (by decide +kernel) rfl
theorem mlL_128 : Cond.methodLink RL 128 yL_number ∈ lwg := gq 599 (by decide +kernel) rfl
theorem mlL_130 : Cond.methodLink RL 130 yX10_number ∈ lwg := gq 1518 (by decide +kernel) rfl
theorem mlL_131 : Cond.methodLink RL 131 yL_shot ∈ lwg := gq 710 (by decide +kernel) rfl
theorem mlL_133 : Cond.methodLink RL 133 yX10_shot ∈ lwg := gq 1394 (by decide +kernel) rfl
theorem mlL_134 : Cond.methodLink RL 134 yL_feed ∈ lwg := gq 723 (by decide +kernel) rfl
theorem mlL_137 : Cond.methodLink RL 137 yX10_feed ∈ lwg := gq 1398 (by decide +kernel) rfl
theorem mlL_138 : Cond.methodLink RL 138 yL_add ∈ lwg := gq 735 (by decide +kernel) rfl
theorem mlL_141 : Cond.methodLink RL 141 yX10_add ∈ lwg := gq 1402 (by decide +kernel) rfl
theorem mlL_142 : Cond.methodLink RL 142 yL_remove ∈ lwg := gq 808 (by decide +kernel) rfl
theorem mlL_144 : Cond.methodLink RL 144 yX10_remove ∈ lwg := gq 1435 (by decide +kernel) rfl
theorem mlL_145 : Cond.methodLink RL 145 yL_move ∈ lwg := gq 825 (by decide +kernel) rfl
theorem mlL_147 : Cond.methodLink RL 147 yX10_move ∈ lwg := gq 1447 (by decide +kernel) rfl
theorem mlL_148 : Cond.methodLink RL 148 yL_split ∈ lwg := gq 848 (by decide +kernel) rfl
theorem mlL_151 : Cond.methodLink RL 151 yX10_split ∈ lwg := gq 1459 (by decide +kernel) rfl
theorem mlL_152 : Cond.methodLink RL 152 yL_merge ∈ lwg := gq 882 (by decide +kernel) rfl
theorem mlL_154 : Cond.methodLink RL 154 yX10_merge ∈ lwg := gq 1466 (by decide +kernel) rfl
theorem mlL_155 : Cond.methodLink RL 155 yL_snap ∈ lwg := gq 909 (by decide +kernel) rfl
theorem mlL_157 : Cond.methodLink RL 157 yX10_snap ∈ lwg := gq 1482 (by decide +kernel) rfl
theorem mlL_158 : Cond.methodLink RL 158 yL_fit ∈ lwg := gq 932 (by decide +kernel) rfl
theorem mlL_160 : Cond.methodLink RL 160 yX10_fit ∈ lwg := gq 1497 (by decide +kernel) rfl
theorem mlL_161 : Cond.methodLink RL 161 yL_retime ∈ lwg := gq 951 (by decide +kernel) rfl
theorem mlL_164 : Cond.methodLink RL 164 yX10_retime ∈ lwg := gq 1508 (by decide +kernel) rfl
theorem mlL_165 : Cond.methodLink RL 165 yL_caption ∈ lwg := gq 1004 (by decide +kernel) rfl
theorem mlL_167 : Cond.methodLink RL 167 yX10_caption ∈ lwg := gq 1550 (by decide +kernel) rfl
theorem mlL_168 : Cond.methodLink RL 168 yL_letter ∈ lwg := gq 1029 (by decide +kernel) rfl
theorem mlL_170 : Cond.methodLink RL 170 yX10_letter ∈ lwg := gq 1558 (by decide +kernel) rfl
theorem mlL_171 : Cond.methodLink RL 171 yL_shown ∈ lwg := gq 1053 (by decide +kernel) rfl
theorem mlL_173 : Cond.methodLink RL 173 yX10_shown ∈ lwg := gq 1562 (by decide +kernel) rfl
theorem mlL_174 : Cond.methodLink RL 174 yL_track ∈ lwg := gq 1065 (by decide +kernel) rfl
theorem mlL_176 : Cond.methodLink RL 176 yX10_track ∈ lwg := gq 1566 (by decide +kernel) rfl
theorem mlL_177 : Cond.methodLink RL 177 yL_fastest ∈ lwg := gq 1092 (by decide +kernel) rfl
theorem mlL_179 : Cond.methodLink RL 179 yX10_fastest ∈ lwg := gq 1586 (by decide +kernel) rfl
theorem mlL_180 : Cond.methodLink RL 180 yL_speed ∈ lwg := gq 1104 (by decide +kernel) rfl
theorem mlL_183 : Cond.methodLink RL 183 yX10_speed ∈ lwg := gq 1590 (by decide +kernel) rfl
theorem mlL_184 : Cond.methodLink RL 184 yL_read ∈ lwg := gq 1128 (by decide +kernel) rfl
theorem mlL_187 : Cond.methodLink RL 187 yX10_read ∈ lwg := gq 1595 (by decide +kernel) rfl
theorem mlL_188 : Cond.methodLink RL 188 yL_faultPosition ∈ lwg := gq 1227 (by decide +kernel) rfl
theorem mlL_190 : Cond.methodLink RL 190 yX10_faultPosition ∈ lwg := gq 1627 (by decide +kernel) rfl
theorem mlL_191 : Cond.methodLink RL 191 yL_refusal ∈ lwg := gq 1235 (by decide +kernel) rfl
theorem mlL_194 : Cond.methodLink RL 194 yX10_refusal ∈ lwg := gq 1631 (by decide +kernel) rfl
theorem mlL_195 : Cond.methodLink RL 195 yL_undo ∈ lwg := gq 1243 (by decide +kernel) rfl
theorem mlL_197 : Cond.methodLink RL 197 yX10_undo ∈ lwg := gq 1330 (by decide +kernel) rfl
theorem mlL_198 : Cond.methodLink RL 198 yX9_saveSnapshot ∈ lwg := gq 320 (by decide +kernel) rfl
theorem mlL_201 : Cond.methodLink RL 201 yX10_saveSnapshot ∈ lwg := gq 1337 (by decide +kernel) rfl
theorem mlL_202 : Cond.methodLink RL 202 yL_restoreSnapshot ∈ lwg := gq 1256 (by decide +kernel) rfl
theorem mlL_204 : Cond.methodLink RL 204 yX10_restoreSnapshot ∈ lwg := gq 1341 (by decide +kernel) rfl
theorem mlX10_1 : Cond.methodLink RX10 1 objectInit ∈ lwg := gq 1273 (by decide +kernel) rfl
theorem mlX10_44 : Cond.methodLink RX10 44 yX10_fails ∈ lwg := gq 1363 (by decide +kernel) rfl
theorem mlX10_48 : Cond.methodLink RX10 48 yX10_in ∈ lwg := gq 1349 (by decide +kernel) rfl
theorem mlX10_52 : Cond.methodLink RX10 52 yX10_isTrack ∈ lwg := gq 1406 (by decide +kernel) rfl
theorem mlX10_56 : Cond.methodLink RX10 56 yX10_at ∈ lwg := gq 1356 (by decide +kernel) rfl
theorem mlX10_63 : Cond.methodLink RX10 63 yX10_copies ∈ lwg := gq 1334 (by decide +kernel) rfl
theorem mlX10_71 : Cond.methodLink RX10 71 yX10_end ∈ lwg := gq 1352 (by decide +kernel) rfl
theorem mlX10_75 : Cond.methodLink RX10 75 yX10_refuses ∈ lwg := gq 1359 (by decide +kernel) rfl
theorem mlX10_78 : Cond.methodLink RX10 78 yX10_changes ∈ lwg := gq 1367 (by decide +kernel) rfl
theorem mlX10_82 : Cond.methodLink RX10 82 yX10_maySet ∈ lwg := gq 1375 (by decide +kernel) rfl
theorem mlX10_86 : Cond.methodLink RX10 86 yX10_isCut ∈ lwg := gq 1386 (by decide +kernel) rfl
theorem mlX10_89 : Cond.methodLink RX10 89 yX10_againstCut ∈ lwg := gq 1382 (by decide +kernel) rfl
theorem mlX10_93 : Cond.methodLink RX10 93 yX10_cuts ∈ lwg := gq 1390 (by decide +kernel) rfl
theorem mlX10_97 : Cond.methodLink RX10 97 yX10_far ∈ lwg := gq 1494 (by decide +kernel) rfl
theorem mlX10_100 : Cond.methodLink RX10 100 yX10_isLetter ∈ lwg := gq 1424 (by decide +kernel) rfl
theorem mlX10_103 : Cond.methodLink RX10 103 yX10_bars ∈ lwg := gq 1463 (by decide +kernel) rfl
theorem mlX10_107 : Cond.methodLink RX10 107 yX10_load ∈ lwg := gq 1478 (by decide +kernel) rfl
theorem mlX10_110 : Cond.methodLink RX10 110 yX10_up ∈ lwg := gq 1505 (by decide +kernel) rfl
theorem mlX10_113 : Cond.methodLink RX10 113 yX10_first ∈ lwg := gq 1417 (by decide +kernel) rfl
theorem mlX10_116 : Cond.methodLink RX10 116 yX10_shared ∈ lwg := gq 1526 (by decide +kernel) rfl
theorem mlX10_119 : Cond.methodLink RX10 119 yX10_partner ∈ lwg := gq 1546 (by decide +kernel) rfl
theorem mlX10_122 : Cond.methodLink RX10 122 yX10_needs ∈ lwg := gq 1501 (by decide +kernel) rfl
theorem mlX10_125 : Cond.methodLink RX10 125 yX10_isLoose ∈ lwg := gq 1486 (by decide +kernel) rfl
theorem mlX10_128 : Cond.methodLink RX10 128 yX10_before ∈ lwg := gq 1474 (by decide +kernel) rfl
theorem mlX10_131 : Cond.methodLink RX10 131 yX10_longest ∈ lwg := gq 1538 (by decide +kernel) rfl
theorem mlX10_134 : Cond.methodLink RX10 134 yX10_isInStep ∈ lwg := gq 1542 (by decide +kernel) rfl
theorem mlX10_140 : Cond.methodLink RX10 140 yX10_againstPlace ∈ lwg := gq 1413 (by decide +kernel) rfl
theorem mlX10_144 : Cond.methodLink RX10 144 yX10_isText ∈ lwg := gq 1421 (by decide +kernel) rfl
theorem mlX10_148 : Cond.methodLink RX10 148 yX10_puts ∈ lwg := gq 1431 (by decide +kernel) rfl
theorem mlX10_151 : Cond.methodLink RX10 151 yX10_againstAdd ∈ lwg := gq 1409 (by decide +kernel) rfl
theorem mlX10_155 : Cond.methodLink RX10 155 yX10_adds ∈ lwg := gq 1427 (by decide +kernel) rfl
theorem mlX10_159 : Cond.methodLink RX10 159 yX10_isCaption ∈ lwg := gq 1439 (by decide +kernel) rfl
theorem mlX10_162 : Cond.methodLink RX10 162 yX10_takes ∈ lwg := gq 1443 (by decide +kernel) rfl
theorem mlX10_166 : Cond.methodLink RX10 166 yX10_owns ∈ lwg := gq 1455 (by decide +kernel) rfl
theorem mlX10_169 : Cond.methodLink RX10 169 yX10_moves ∈ lwg := gq 1451 (by decide +kernel) rfl
theorem mlX10_172 : Cond.methodLink RX10 172 yX10_againstMerge ∈ lwg := gq 1470 (by decide +kernel) rfl
theorem mlX10_175 : Cond.methodLink RX10 175 yX10_nearest ∈ lwg := gq 1490 (by decide +kernel) rfl
theorem mlX10_178 : Cond.methodLink RX10 178 yX10_floor ∈ lwg := gq 1515 (by decide +kernel) rfl
theorem mlX10_181 : Cond.methodLink RX10 181 yX10_retimed ∈ lwg := gq 1512 (by decide +kernel) rfl
theorem mlX10_184 : Cond.methodLink RX10 184 yX10_problems ∈ lwg := gq 1534 (by decide +kernel) rfl
theorem mlX10_187 : Cond.methodLink RX10 187 yX10_both ∈ lwg := gq 1522 (by decide +kernel) rfl
theorem mlX10_191 : Cond.methodLink RX10 191 yX10_with ∈ lwg := gq 1530 (by decide +kernel) rfl
theorem mlX10_194 : Cond.methodLink RX10 194 yX10_cutsWithin ∈ lwg := gq 1554 (by decide +kernel) rfl
theorem mlX10_197 : Cond.methodLink RX10 197 yX10_frames ∈ lwg := gq 1570 (by decide +kernel) rfl
theorem mlX10_200 : Cond.methodLink RX10 200 yX10_loads ∈ lwg := gq 1574 (by decide +kernel) rfl
theorem mlX10_203 : Cond.methodLink RX10 203 yX10_overCuts ∈ lwg := gq 1578 (by decide +kernel) rfl
theorem mlX10_206 : Cond.methodLink RX10 206 yX10_merging ∈ lwg := gq 1582 (by decide +kernel) rfl
theorem mlX10_214 : Cond.methodLink RX10 214 yX10_here ∈ lwg := gq 1607 (by decide +kernel) rfl
theorem mlX10_223 : Cond.methodLink RX10 223 yX10_digits ∈ lwg := gq 1611 (by decide +kernel) rfl
theorem mlX10_226 : Cond.methodLink RX10 226 yX10_skips ∈ lwg := gq 1615 (by decide +kernel) rfl
theorem mlX10_229 : Cond.methodLink RX10 229 yX10_words ∈ lwg := gq 1619 (by decide +kernel) rfl
theorem mlX10_232 : Cond.methodLink RX10 232 yX10_item ∈ lwg := gq 1603 (by decide +kernel) rfl
theorem mlX10_236 : Cond.methodLink RX10 236 yX10_isItems ∈ lwg := gq 1599 (by decide +kernel) rfl
theorem mlX10_239 : Cond.methodLink RX10 239 yX10_does ∈ lwg := gq 1623 (by decide +kernel) rfl
theorem mnX0_32 : Cond.methodLinkNest RX0 32 yX9_distance RX9 ∈ gBad := gb 620 (by decide +kernel) rfl
theorem mnX2_40 : Cond.methodLinkNest RX2 40 yX9_dividedUp RX9 ∈ gBad := gb 608 (by decide +kernel) rfl
theorem mnX2_64 : Cond.methodLinkNest RX2 64 yX9_distance RX9 ∈ gBad := gb 647 (by decide +kernel) rfl
theorem mnX3_55 : Cond.methodLinkNest RX3 55 yX9_isSetting RX9 ∈ gBad := gb 453 (by decide +kernel) rfl
theorem mnX3_66 : Cond.methodLinkNest RX3 66 yX9_distance RX9 ∈ gBad := gb 626 (by decide +kernel) rfl
theorem mnX5_85 : Cond.methodLinkNest RX5 85 yX9_isWordSign RX9 ∈ gBad := gb 1114 (by decide +kernel) rfl
theorem mnX7_27 : Cond.methodLinkNest RX7 27 yX9_isWordSign RX9 ∈ gBad := gb 725 (by decide +kernel) rfl
theorem csJ9_floorDiv_7cf53 : gCS yJ9_floorDiv_7cf53 cJ9_floorDiv_7cf53 3 (some .int) 2 := ⟨⟨by decide +kernel, by decide +kernel, by decide +kernel⟩, gq 998 (by decide +kernel) rfl, gq 77 (by decide +kernel) rfl, gq 997 (by decide +kernel) rfl⟩
theorem cvX0_at : gCV yX0_at cX0_at 2 (some .int) 1 := ⟨⟨by decide +kernel, by decide +kernel, by decide +kernel⟩, gq 442 (by decide +kernel) rfl, gq 64 (by decide +kernel) rfl, gq 440 (by decide +kernel) rfl, gq 441 (by decide +kernel) rfl⟩
theorem cvX0_copyFrom : gCV yX0_copyFrom cX0_copyFrom 2 none 1 := ⟨⟨by decide +kernel, by decide +kernel, by decide +kernel⟩, gq 331 (by decide +kernel) rfl, gq 64 (by decide +kernel) rfl, gq 329 (by decide +kernel) rfl, gq 330 (by decide +kernel) rfl⟩
theorem cvX0_firstFrom : gCV yX0_firstFrom cX0_firstFrom 2 (some .int) 1 := ⟨⟨by decide +kernel, by decide +kernel, by decide +kernel⟩, gq 950 (by decide +kernel) rfl, gq 64 (by decide +kernel) rfl, gq 948 (by decide +kernel) rfl, gq 949 (by decide +kernel) rfl⟩
theorem cvX0_holds : gCV yX0_holds cX0_holds 2 (some .boolean) 1 := ⟨⟨by decide +kernel, by decide +kernel, by decide +kernel⟩, gq 570 (by decide +kernel) rfl, gq 64 (by decide +kernel) rfl, gq 568 (by decide +kernel) rfl, gq 569 (by decide +kernel) rfl⟩
theorem cvX0_lacksRoomFor : gCV yX0_lacksRoomFor cX0_lacksRoomFor 2 (some .boolean) 1 := ⟨⟨by decide +kernel, by decide +kernel, by decide +kernel⟩, gq 566 (by decide +kernel) rfl, gq 64 (by decide +kernel) rfl, gq 564 (by decide +kernel) rfl, gq 565 (by decide +kernel) rfl⟩
theorem cvX0_make : gCV yX0_make cX0_make 3 none 1 := ⟨⟨by decide +kernel, by decide +kernel, by decide +kernel⟩, gq 594 (by decide +kernel) rfl, gq 64 (by decide +kernel) rfl, gq 592 (by decide +kernel) rfl, gq 593 (by decide +kernel) rfl⟩
theorem cvX0_nearest : gCV yX0_nearest cX0_nearest 4 (some .int) 1 := ⟨⟨by decide +kernel, by decide +kernel, by decide +kernel⟩, gq 678 (by decide +kernel) rfl, gq 64 (by decide +kernel) rfl, gq 676 (by decide +kernel) rfl, gq 677 (by decide +kernel) rfl⟩
theorem cvX0_takeAway : gCV yX0_takeAway cX0_takeAway 3 none 1 := ⟨⟨by decide +kernel, by decide +kernel, by decide +kernel⟩, gq 598 (by decide +kernel) rfl, gq 64 (by decide +kernel) rfl, gq 596 (by decide +kernel) rfl, gq 597 (by decide +kernel) rfl⟩
theorem cvX0_upTo : gCV yX0_upTo cX0_upTo 4 (some .int) 1 := ⟨⟨by decide +kernel, by decide +kernel, by decide +kernel⟩, gq 574 (by decide +kernel) rfl, gq 64 (by decide +kernel) rfl, gq 572 (by decide +kernel) rfl, gq 573 (by decide +kernel) rfl⟩
theorem cvX10_add : gCV yX10_add cX10_add 7 (some .int) 4 := ⟨⟨by decide +kernel, by decide +kernel, by decide +kernel⟩, gq 1405 (by decide +kernel) rfl, gq 71 (by decide +kernel) rfl, gq 1403 (by decide +kernel) rfl, gq 1404 (by decide +kernel) rfl⟩
theorem cvX10_adds : gCV yX10_adds cX10_adds 8 (some .int) 6 := ⟨⟨by decide +kernel, by decide +kernel, by decide +kernel⟩, gq 1430 (by decide +kernel) rfl, gq 71 (by decide +kernel) rfl, gq 1429 (by decide +kernel) rfl, gq 29 (by decide +kernel) rfl⟩
theorem cvX10_againstAdd : gCV yX10_againstAdd cX10_againstAdd 7 (some .int) 5 := ⟨⟨by decide +kernel, by decide +kernel, by decide +kernel⟩, gq 1412 (by decide +kernel) rfl, gq 71 (by decide +kernel) rfl, gq 1411 (by decide +kernel) rfl, gq 26 (by decide +kernel) rfl⟩
theorem cvX10_againstCut : gCV yX10_againstCut cX10_againstCut 3 (some .int) 2 := ⟨⟨by decide +kernel, by decide +kernel, by decide +kernel⟩, gq 1385 (by decide +kernel) rfl, gq 71 (by decide +kernel) rfl, gq 1384 (by decide +kernel) rfl, gq 23 (by decide +kernel) rfl⟩
theorem cvX10_againstMerge : gCV yX10_againstMerge cX10_againstMerge 5 (some .int) 2 := ⟨⟨by decide +kernel, by decide +kernel, by decide +kernel⟩, gq 1473 (by decide +kernel) rfl, gq 71 (by decide +kernel) rfl, gq 1472 (by decide +kernel) rfl, gq 35 (by decide +kernel) rfl⟩
theorem cvX10_againstPlace : gCV yX10_againstPlace cX10_againstPlace 6 (some .int) 4 := ⟨⟨by decide +kernel, by decide +kernel, by decide +kernel⟩, gq 1416 (by decide +kernel) rfl, gq 71 (by decide +kernel) rfl, gq 1415 (by decide +kernel) rfl, gq 27 (by decide +kernel) rfl⟩
theorem csX10_at : gCS yX10_at cX10_at 3 (some .int) 3 := ⟨⟨by decide +kernel, by decide +kernel, by decide +kernel⟩, gq 1358 (by decide +kernel) rfl, gq 71 (by decide +kernel) rfl, gq 1357 (by decide +kernel) rfl⟩
theorem csX10_bars : gCS yX10_bars cX10_bars 5 (some .int) 3 := ⟨⟨by decide +kernel, by decide +kernel, by decide +kernel⟩, gq 1465 (by decide +kernel) rfl, gq 71 (by decide +kernel) rfl, gq 1464 (by decide +kernel) rfl⟩
theorem cvX10_before : gCV yX10_before cX10_before 3 (some .int) 2 := ⟨⟨by decide +kernel, by decide +kernel, by decide +kernel⟩, gq 1477 (by decide +kernel) rfl, gq 71 (by decide +kernel) rfl, gq 1476 (by decide +kernel) rfl, gq 36 (by decide +kernel) rfl⟩
theorem cvX10_both : gCV yX10_both cX10_both 4 (some .int) 0 := ⟨⟨by decide +kernel, by decide +kernel, by decide +kernel⟩, gq 1525 (by decide +kernel) rfl, gq 71 (by decide +kernel) rfl, gq 1524 (by decide +kernel) rfl, gq 41 (by decide +kernel) rfl⟩
theorem cvX10_caption : gCV yX10_caption cX10_caption 4 (some .int) 3 := ⟨⟨by decide +kernel, by decide +kernel, by decide +kernel⟩, gq 1553 (by decide +kernel) rfl, gq 71 (by decide +kernel) rfl, gq 1551 (by decide +kernel) rfl, gq 1552 (by decide +kernel) rfl⟩
theorem cvX10_changes : gCV yX10_changes cX10_changes 3 none 1 := ⟨⟨by decide +kernel, by decide +kernel, by decide +kernel⟩, gq 1370 (by decide +kernel) rfl, gq 71 (by decide +kernel) rfl, gq 1369 (by decide +kernel) rfl, gq 22 (by decide +kernel) rfl⟩
theorem csX10_copies : gCS yX10_copies cX10_copies 5 none 4 := ⟨⟨by decide +kernel, by decide +kernel, by decide +kernel⟩, gq 1336 (by decide +kernel) rfl, gq 71 (by decide +kernel) rfl, gq 1335 (by decide +kernel) rfl⟩
theorem cvX10_cut : gCV yX10_cut cX10_cut 4 (some .int) 2 := ⟨⟨by decide +kernel, by decide +kernel, by decide +kernel⟩, gq 1381 (by decide +kernel) rfl, gq 71 (by decide +kernel) rfl, gq 1379 (by decide +kernel) rfl, gq 1380 (by decide +kernel) rfl⟩
theorem cvX10_cuts : gCV yX10_cuts cX10_cuts 4 none 2 := ⟨⟨by decide +kernel, by decide +kernel, by decide +kernel⟩, gq 1393 (by decide +kernel) rfl, gq 71 (by decide +kernel) rfl, gq 1392 (by decide +kernel) rfl, gq 25 (by decide +kernel) rfl⟩
theorem cvX10_cutsWithin : gCV yX10_cutsWithin cX10_cutsWithin 5 (some .int) 2 := ⟨⟨by decide +kernel, by decide +kernel, by decide +kernel⟩, gq 1557 (by decide +kernel) rfl, gq 71 (by decide +kernel) rfl, gq 1556 (by decide +kernel) rfl, gq 48 (by decide +kernel) rfl⟩
theorem cvX10_digits : gCV yX10_digits cX10_digits 3 (some .boolean) 1 := ⟨⟨by decide +kernel, by decide +kernel, by decide +kernel⟩, gq 1614 (by decide +kernel) rfl, gq 71 (by decide +kernel) rfl, gq 1613 (by decide +kernel) rfl, gq 56 (by decide +kernel) rfl⟩
theorem cvX10_does : gCV yX10_does cX10_does 5 (some .int) 1 := ⟨⟨by decide +kernel, by decide +kernel, by decide +kernel⟩, gq 1626 (by decide +kernel) rfl, gq 71 (by decide +kernel) rfl, gq 1625 (by decide +kernel) rfl, gq 59 (by decide +kernel) rfl⟩
theorem cvX10_end : gCV yX10_end cX10_end 3 (some .int) 2 := ⟨⟨by decide +kernel, by decide +kernel, by decide +kernel⟩, gq 1355 (by decide +kernel) rfl, gq 71 (by decide +kernel) rfl, gq 1354 (by decide +kernel) rfl, gq 19 (by decide +kernel) rfl⟩
theorem cvX10_fails : gCV yX10_fails cX10_fails 2 (some .int) 1 := ⟨⟨by decide +kernel, by decide +kernel, by decide +kernel⟩, gq 1366 (by decide +kernel) rfl, gq 71 (by decide +kernel) rfl, gq 1365 (by decide +kernel) rfl, gq 21 (by decide +kernel) rfl⟩
theorem csX10_far : gCS yX10_far cX10_far 2 (some .int) 2 := ⟨⟨by decide +kernel, by decide +kernel, by decide +kernel⟩, gq 1496 (by decide +kernel) rfl, gq 71 (by decide +kernel) rfl, gq 1495 (by decide +kernel) rfl⟩
theorem cvX10_fastest : gCV yX10_fastest cX10_fastest 4 (some .int) 1 := ⟨⟨by decide +kernel, by decide +kernel, by decide +kernel⟩, gq 1589 (by decide +kernel) rfl, gq 71 (by decide +kernel) rfl, gq 1587 (by decide +kernel) rfl, gq 1588 (by decide +kernel) rfl⟩
theorem cvX10_faultPosition : gCV yX10_faultPosition cX10_faultPosition 1 (some .int) 0 := ⟨⟨by decide +kernel, by decide +kernel, by decide +kernel⟩, gq 1630 (by decide +kernel) rfl, gq 71 (by decide +kernel) rfl, gq 1628 (by decide +kernel) rfl, gq 1629 (by decide +kernel) rfl⟩
theorem cvX10_feed : gCV yX10_feed cX10_feed 2 (some .int) 1 := ⟨⟨by decide +kernel, by decide +kernel, by decide +kernel⟩, gq 1401 (by decide +kernel) rfl, gq 71 (by decide +kernel) rfl, gq 1399 (by decide +kernel) rfl, gq 1400 (by decide +kernel) rfl⟩
theorem cvX10_film : gCV yX10_film cX10_film 4 (some .int) 1 := ⟨⟨by decide +kernel, by decide +kernel, by decide +kernel⟩, gq 1348 (by decide +kernel) rfl, gq 71 (by decide +kernel) rfl, gq 1346 (by decide +kernel) rfl, gq 1347 (by decide +kernel) rfl⟩
theorem cvX10_first : gCV yX10_first cX10_first 3 (some .int) 2 := ⟨⟨by decide +kernel, by decide +kernel, by decide +kernel⟩, gq 1420 (by decide +kernel) rfl, gq 71 (by decide +kernel) rfl, gq 1419 (by decide +kernel) rfl, gq 28 (by decide +kernel) rfl⟩
theorem cvX10_fit : gCV yX10_fit cX10_fit 5 (some .int) 2 := ⟨⟨by decide +kernel, by decide +kernel, by decide +kernel⟩, gq 1500 (by decide +kernel) rfl, gq 71 (by decide +kernel) rfl, gq 1498 (by decide +kernel) rfl, gq 1499 (by decide +kernel) rfl⟩
theorem csX10_floor : gCS yX10_floor cX10_floor 2 (some .int) 2 := ⟨⟨by decide +kernel, by decide +kernel, by decide +kernel⟩, gq 1517 (by decide +kernel) rfl, gq 71 (by decide +kernel) rfl, gq 1516 (by decide +kernel) rfl⟩
theorem cvX10_frames : gCV yX10_frames cX10_frames 4 (some .int) 1 := ⟨⟨by decide +kernel, by decide +kernel, by decide +kernel⟩, gq 1573 (by decide +kernel) rfl, gq 71 (by decide +kernel) rfl, gq 1572 (by decide +kernel) rfl, gq 49 (by decide +kernel) rfl⟩
theorem cvX10_here : gCV yX10_here cX10_here 1 (some .int) 0 := ⟨⟨by decide +kernel, by decide +kernel, by decide +kernel⟩, gq 1610 (by decide +kernel) rfl, gq 71 (by decide +kernel) rfl, gq 1609 (by decide +kernel) rfl, gq 55 (by decide +kernel) rfl⟩
theorem csX10_in : gCS yX10_in cX10_in 3 (some .boolean) 3 := ⟨⟨by decide +kernel, by decide +kernel, by decide +kernel⟩, gq 1351 (by decide +kernel) rfl, gq 71 (by decide +kernel) rfl, gq 1350 (by decide +kernel) rfl⟩
theorem cvX10_isCaption : gCV yX10_isCaption cX10_isCaption 3 (some .boolean) 2 := ⟨⟨by decide +kernel, by decide +kernel, by decide +kernel⟩, gq 1442 (by decide +kernel) rfl, gq 71 (by decide +kernel) rfl, gq 1441 (by decide +kernel) rfl, gq 31 (by decide +kernel) rfl⟩
theorem cvX10_isCut : gCV yX10_isCut cX10_isCut 3 (some .boolean) 1 := ⟨⟨by decide +kernel, by decide +kernel, by decide +kernel⟩, gq 1389 (by decide +kernel) rfl, gq 71 (by decide +kernel) rfl, gq 1388 (by decide +kernel) rfl, gq 24 (by decide +kernel) rfl⟩
theorem cvX10_isInStep : gCV yX10_isInStep cX10_isInStep 4 (some .boolean) 2 := ⟨⟨by decide +kernel, by decide +kernel, by decide +kernel⟩, gq 1545 (by decide +kernel) rfl, gq 71 (by decide +kernel) rfl, gq 1544 (by decide +kernel) rfl, gq 46 (by decide +kernel) rfl⟩
theorem cvX10_isItems : gCV yX10_isItems cX10_isItems 1 (some .boolean) 0 := ⟨⟨by decide +kernel, by decide +kernel, by decide +kernel⟩, gq 1602 (by decide +kernel) rfl, gq 71 (by decide +kernel) rfl, gq 1601 (by decide +kernel) rfl, gq 53 (by decide +kernel) rfl⟩
theorem csX10_isLetter : gCS yX10_isLetter cX10_isLetter 1 (some .boolean) 1 := ⟨⟨by decide +kernel, by decide +kernel, by decide +kernel⟩, gq 1426 (by decide +kernel) rfl, gq 71 (by decide +kernel) rfl, gq 1425 (by decide +kernel) rfl⟩
theorem cvX10_isLoose : gCV yX10_isLoose cX10_isLoose 4 (some .boolean) 1 := ⟨⟨by decide +kernel, by decide +kernel, by decide +kernel⟩, gq 1489 (by decide +kernel) rfl, gq 71 (by decide +kernel) rfl, gq 1488 (by decide +kernel) rfl, gq 38 (by decide +kernel) rfl⟩
theorem csX10_isText : gCS yX10_isText cX10_isText 5 (some .boolean) 3 := ⟨⟨by decide +kernel, by decide +kernel, by decide +kernel⟩, gq 1423 (by decide +kernel) rfl, gq 71 (by decide +kernel) rfl, gq 1422 (by decide +kernel) rfl⟩
theorem csX10_isTrack : gCS yX10_isTrack cX10_isTrack 1 (some .boolean) 1 := ⟨⟨by decide +kernel, by decide +kernel, by decide +kernel⟩, gq 1408 (by decide +kernel) rfl, gq 71 (by decide +kernel) rfl, gq 1407 (by decide +kernel) rfl⟩
theorem cvX10_item : gCV yX10_item cX10_item 4 (some .boolean) 0 := ⟨⟨by decide +kernel, by decide +kernel, by decide +kernel⟩, gq 1606 (by decide +kernel) rfl, gq 71 (by decide +kernel) rfl, gq 1605 (by decide +kernel) rfl, gq 54 (by decide +kernel) rfl⟩
theorem cvX10_letter : gCV yX10_letter cX10_letter 4 (some .char) 3 := ⟨⟨by decide +kernel, by decide +kernel, by decide +kernel⟩, gq 1561 (by decide +kernel) rfl, gq 71 (by decide +kernel) rfl, gq 1559 (by decide +kernel) rfl, gq 1560 (by decide +kernel) rfl⟩
theorem cvX10_load : gCV yX10_load cX10_load 3 (some .int) 2 := ⟨⟨by decide +kernel, by decide +kernel, by decide +kernel⟩, gq 1481 (by decide +kernel) rfl, gq 71 (by decide +kernel) rfl, gq 1480 (by decide +kernel) rfl, gq 37 (by decide +kernel) rfl⟩
theorem cvX10_loads : gCV yX10_loads cX10_loads 4 (some .int) 1 := ⟨⟨by decide +kernel, by decide +kernel, by decide +kernel⟩, gq 1577 (by decide +kernel) rfl, gq 71 (by decide +kernel) rfl, gq 1576 (by decide +kernel) rfl, gq 50 (by decide +kernel) rfl⟩
theorem cvX10_longest : gCV yX10_longest cX10_longest 5 (some .int) 2 := ⟨⟨by decide +kernel, by decide +kernel, by decide +kernel⟩, gq 1541 (by decide +kernel) rfl, gq 71 (by decide +kernel) rfl, gq 1540 (by decide +kernel) rfl, gq 45 (by decide +kernel) rfl⟩
theorem csX10_maySet : gCS yX10_maySet cX10_maySet 2 (some .boolean) 2 := ⟨⟨by decide +kernel, by decide +kernel, by decide +kernel⟩, gq 1377 (by decide +kernel) rfl, gq 71 (by decide +kernel) rfl, gq 1376 (by decide +kernel) rfl⟩
theorem cvX10_merge : gCV yX10_merge cX10_merge 7 (some .int) 2 := ⟨⟨by decide +kernel, by decide +kernel, by decide +kernel⟩, gq 1469 (by decide +kernel) rfl, gq 71 (by decide +kernel) rfl, gq 1467 (by decide +kernel) rfl, gq 1468 (by decide +kernel) rfl⟩
theorem cvX10_merging : gCV yX10_merging cX10_merging 4 (some .int) 1 := ⟨⟨by decide +kernel, by decide +kernel, by decide +kernel⟩, gq 1585 (by decide +kernel) rfl, gq 71 (by decide +kernel) rfl, gq 1584 (by decide +kernel) rfl, gq 52 (by decide +kernel) rfl⟩
theorem cvX10_move : gCV yX10_move cX10_move 6 (some .int) 4 := ⟨⟨by decide +kernel, by decide +kernel, by decide +kernel⟩, gq 1450 (by decide +kernel) rfl, gq 71 (by decide +kernel) rfl, gq 1448 (by decide +kernel) rfl, gq 1449 (by decide +kernel) rfl⟩
theorem cvX10_moves : gCV yX10_moves cX10_moves 5 (some .int) 4 := ⟨⟨by decide +kernel, by decide +kernel, by decide +kernel⟩, gq 1454 (by decide +kernel) rfl, gq 71 (by decide +kernel) rfl, gq 1453 (by decide +kernel) rfl, gq 33 (by decide +kernel) rfl⟩
theorem cvX10_nearest : gCV yX10_nearest cX10_nearest 4 (some .int) 1 := ⟨⟨by decide +kernel, by decide +kernel, by decide +kernel⟩, gq 1493 (by decide +kernel) rfl, gq 71 (by decide +kernel) rfl, gq 1492 (by decide +kernel) rfl, gq 39 (by decide +kernel) rfl⟩
theorem cvX10_needs : gCV yX10_needs cX10_needs 5 (some .int) 2 := ⟨⟨by decide +kernel, by decide +kernel, by decide +kernel⟩, gq 1504 (by decide +kernel) rfl, gq 71 (by decide +kernel) rfl, gq 1503 (by decide +kernel) rfl, gq 40 (by decide +kernel) rfl⟩
theorem cvX10_number : gCV yX10_number cX10_number 2 (some .int) 1 := ⟨⟨by decide +kernel, by decide +kernel, by decide +kernel⟩, gq 1521 (by decide +kernel) rfl, gq 71 (by decide +kernel) rfl, gq 1519 (by decide +kernel) rfl, gq 1520 (by decide +kernel) rfl⟩
theorem cvX10_overCuts : gCV yX10_overCuts cX10_overCuts 4 (some .int) 1 := ⟨⟨by decide +kernel, by decide +kernel, by decide +kernel⟩, gq 1581 (by decide +kernel) rfl, gq 71 (by decide +kernel) rfl, gq 1580 (by decide +kernel) rfl, gq 51 (by decide +kernel) rfl⟩
theorem cvX10_owns : gCV yX10_owns cX10_owns 4 none 2 := ⟨⟨by decide +kernel, by decide +kernel, by decide +kernel⟩, gq 1458 (by decide +kernel) rfl, gq 71 (by decide +kernel) rfl, gq 1457 (by decide +kernel) rfl, gq 34 (by decide +kernel) rfl⟩
theorem cvX10_partner : gCV yX10_partner cX10_partner 5 (some .int) 2 := ⟨⟨by decide +kernel, by decide +kernel, by decide +kernel⟩, gq 1549 (by decide +kernel) rfl, gq 71 (by decide +kernel) rfl, gq 1548 (by decide +kernel) rfl, gq 47 (by decide +kernel) rfl⟩
theorem cvX10_problems : gCV yX10_problems cX10_problems 4 (some .int) 2 := ⟨⟨by decide +kernel, by decide +kernel, by decide +kernel⟩, gq 1537 (by decide +kernel) rfl, gq 71 (by decide +kernel) rfl, gq 1536 (by decide +kernel) rfl, gq 44 (by decide +kernel) rfl⟩
theorem cvX10_puts : gCV yX10_puts cX10_puts 4 (some .int) 1 := ⟨⟨by decide +kernel, by decide +kernel, by decide +kernel⟩, gq 1434 (by decide +kernel) rfl, gq 71 (by decide +kernel) rfl, gq 1433 (by decide +kernel) rfl, gq 30 (by decide +kernel) rfl⟩
theorem cvX10_read : gCV yX10_read cX10_read 4 (some .int) 0 := ⟨⟨by decide +kernel, by decide +kernel, by decide +kernel⟩, gq 1598 (by decide +kernel) rfl, gq 71 (by decide +kernel) rfl, gq 1596 (by decide +kernel) rfl, gq 1597 (by decide +kernel) rfl⟩
theorem cvX10_refusal : gCV yX10_refusal cX10_refusal 2 (some .int) 1 := ⟨⟨by decide +kernel, by decide +kernel, by decide +kernel⟩, gq 1634 (by decide +kernel) rfl, gq 71 (by decide +kernel) rfl, gq 1632 (by decide +kernel) rfl, gq 1633 (by decide +kernel) rfl⟩
theorem cvX10_refuses : gCV yX10_refuses cX10_refuses 3 (some .int) 2 := ⟨⟨by decide +kernel, by decide +kernel, by decide +kernel⟩, gq 1362 (by decide +kernel) rfl, gq 71 (by decide +kernel) rfl, gq 1361 (by decide +kernel) rfl, gq 20 (by decide +kernel) rfl⟩
theorem cvX10_remove : gCV yX10_remove cX10_remove 3 (some .int) 2 := ⟨⟨by decide +kernel, by decide +kernel, by decide +kernel⟩, gq 1438 (by decide +kernel) rfl, gq 71 (by decide +kernel) rfl, gq 1436 (by decide +kernel) rfl, gq 1437 (by decide +kernel) rfl⟩
theorem cvX10_restoreSnapshot : gCV yX10_restoreSnapshot cX10_restoreSnapshot 1 (some .int) 0 := ⟨⟨by decide +kernel, by decide +kernel, by decide +kernel⟩, gq 1344 (by decide +kernel) rfl, gq 71 (by decide +kernel) rfl, gq 1342 (by decide +kernel) rfl, gq 1343 (by decide +kernel) rfl⟩
theorem cvX10_retime : gCV yX10_retime cX10_retime 12 (some .int) 5 := ⟨⟨by decide +kernel, by decide +kernel, by decide +kernel⟩, gq 1511 (by decide +kernel) rfl, gq 71 (by decide +kernel) rfl, gq 1509 (by decide +kernel) rfl, gq 1510 (by decide +kernel) rfl⟩
theorem csX10_retimed : gCS yX10_retimed cX10_retimed 7 (some .int) 5 := ⟨⟨by decide +kernel, by decide +kernel, by decide +kernel⟩, gq 1514 (by decide +kernel) rfl, gq 71 (by decide +kernel) rfl, gq 1513 (by decide +kernel) rfl⟩
theorem cvX10_saveSnapshot : gCV yX10_saveSnapshot cX10_saveSnapshot 1 (some .int) 0 := ⟨⟨by decide +kernel, by decide +kernel, by decide +kernel⟩, gq 1340 (by decide +kernel) rfl, gq 71 (by decide +kernel) rfl, gq 1338 (by decide +kernel) rfl, gq 1339 (by decide +kernel) rfl⟩
theorem cvX10_set : gCV yX10_set cX10_set 4 (some .int) 2 := ⟨⟨by decide +kernel, by decide +kernel, by decide +kernel⟩, gq 1374 (by decide +kernel) rfl, gq 71 (by decide +kernel) rfl, gq 1372 (by decide +kernel) rfl, gq 1373 (by decide +kernel) rfl⟩
theorem cvX10_shared : gCV yX10_shared cX10_shared 6 (some .int) 3 := ⟨⟨by decide +kernel, by decide +kernel, by decide +kernel⟩, gq 1529 (by decide +kernel) rfl, gq 71 (by decide +kernel) rfl, gq 1528 (by decide +kernel) rfl, gq 42 (by decide +kernel) rfl⟩
theorem cvX10_shot : gCV yX10_shot cX10_shot 4 (some .int) 1 := ⟨⟨by decide +kernel, by decide +kernel, by decide +kernel⟩, gq 1397 (by decide +kernel) rfl, gq 71 (by decide +kernel) rfl, gq 1395 (by decide +kernel) rfl, gq 1396 (by decide +kernel) rfl⟩
theorem cvX10_shown : gCV yX10_shown cX10_shown 4 (some .int) 2 := ⟨⟨by decide +kernel, by decide +kernel, by decide +kernel⟩, gq 1565 (by decide +kernel) rfl, gq 71 (by decide +kernel) rfl, gq 1563 (by decide +kernel) rfl, gq 1564 (by decide +kernel) rfl⟩
theorem cvX10_skips : gCV yX10_skips cX10_skips 3 (some .boolean) 1 := ⟨⟨by decide +kernel, by decide +kernel, by decide +kernel⟩, gq 1618 (by decide +kernel) rfl, gq 71 (by decide +kernel) rfl, gq 1617 (by decide +kernel) rfl, gq 57 (by decide +kernel) rfl⟩
theorem cvX10_snap : gCV yX10_snap cX10_snap 7 (some .int) 2 := ⟨⟨by decide +kernel, by decide +kernel, by decide +kernel⟩, gq 1485 (by decide +kernel) rfl, gq 71 (by decide +kernel) rfl, gq 1483 (by decide +kernel) rfl, gq 1484 (by decide +kernel) rfl⟩
theorem cvX10_speed : gCV yX10_speed cX10_speed 2 (some .double) 1 := ⟨⟨by decide +kernel, by decide +kernel, by decide +kernel⟩, gq 1593 (by decide +kernel) rfl, gq 71 (by decide +kernel) rfl, gq 1591 (by decide +kernel) rfl, gq 1592 (by decide +kernel) rfl⟩
theorem cvX10_split : gCV yX10_split cX10_split 12 (some .int) 3 := ⟨⟨by decide +kernel, by decide +kernel, by decide +kernel⟩, gq 1462 (by decide +kernel) rfl, gq 71 (by decide +kernel) rfl, gq 1460 (by decide +kernel) rfl, gq 1461 (by decide +kernel) rfl⟩
theorem cvX10_takes : gCV yX10_takes cX10_takes 5 none 2 := ⟨⟨by decide +kernel, by decide +kernel, by decide +kernel⟩, gq 1446 (by decide +kernel) rfl, gq 71 (by decide +kernel) rfl, gq 1445 (by decide +kernel) rfl, gq 32 (by decide +kernel) rfl⟩
theorem cvX10_thrown : gCV yX10_thrown cX10_thrown 1 (some .int) 0 := ⟨⟨by decide +kernel, by decide +kernel, by decide +kernel⟩, gq 1329 (by decide +kernel) rfl, gq 71 (by decide +kernel) rfl, gq 1327 (by decide +kernel) rfl, gq 1328 (by decide +kernel) rfl⟩
theorem cvX10_track : gCV yX10_track cX10_track 3 (some .int) 2 := ⟨⟨by decide +kernel, by decide +kernel, by decide +kernel⟩, gq 1569 (by decide +kernel) rfl, gq 71 (by decide +kernel) rfl, gq 1567 (by decide +kernel) rfl, gq 1568 (by decide +kernel) rfl⟩
theorem cvX10_undo : gCV yX10_undo cX10_undo 1 (some .int) 0 := ⟨⟨by decide +kernel, by decide +kernel, by decide +kernel⟩, gq 1333 (by decide +kernel) rfl, gq 71 (by decide +kernel) rfl, gq 1331 (by decide +kernel) rfl, gq 1332 (by decide +kernel) rfl⟩
theorem csX10_up : gCS yX10_up cX10_up 2 (some .int) 2 := ⟨⟨by decide +kernel, by decide +kernel, by decide +kernel⟩, gq 1507 (by decide +kernel) rfl, gq 71 (by decide +kernel) rfl, gq 1506 (by decide +kernel) rfl⟩
theorem cvX10_with : gCV yX10_with cX10_with 5 (some .int) 2 := ⟨⟨by decide +kernel, by decide +kernel, by decide +kernel⟩, gq 1533 (by decide +kernel) rfl, gq 71 (by decide +kernel) rfl, gq 1532 (by decide +kernel) rfl, gq 43 (by decide +kernel) rfl⟩
theorem cvX10_words : gCV yX10_words cX10_words 2 (some .boolean) 1 := ⟨⟨by decide +kernel, by decide +kernel, by decide +kernel⟩, gq 1622 (by decide +kernel) rfl, gq 71 (by decide +kernel) rfl, gq 1621 (by decide +kernel) rfl, gq 58 (by decide +kernel) rfl⟩
theorem cvX1_carryOutCut : gCV yX1_carryOutCut cX1_carryOutCut 3 (some .int) 2 := ⟨⟨by decide +kernel, by decide +kernel, by decide +kernel⟩, gq 1195 (by decide +kernel) rfl, gq 68 (by decide +kernel) rfl, gq 1193 (by decide +kernel) rfl, gq 1194 (by decide +kernel) rfl⟩
theorem cvX1_divideText : gCV yX1_divideText cX1_divideText 4 none 3 := ⟨⟨by decide +kernel, by decide +kernel, by decide +kernel⟩, gq 865 (by decide +kernel) rfl, gq 68 (by decide +kernel) rfl, gq 864 (by decide +kernel) rfl, gq 7 (by decide +kernel) rfl⟩
theorem cvX1_fitCaption : gCV yX1_fitCaption cX1_fitCaption 8 (some .int) 2 := ⟨⟨by decide +kernel, by decide +kernel, by decide +kernel⟩, gq 942 (by decide +kernel) rfl, gq 68 (by decide +kernel) rfl, gq 940 (by decide +kernel) rfl, gq 941 (by decide +kernel) rfl⟩
theorem cvX1_framesOfHead : gCV yX1_framesOfHead cX1_framesOfHead 6 (some .int) 3 := ⟨⟨by decide +kernel, by decide +kernel, by decide +kernel⟩, gq 870 (by decide +kernel) rfl, gq 68 (by decide +kernel) rfl, gq 869 (by decide +kernel) rfl, gq 8 (by decide +kernel) rfl⟩
theorem csX1_isMeant : gCS yX1_isMeant cX1_isMeant 2 (some .boolean) 2 := ⟨⟨by decide +kernel, by decide +kernel, by decide +kernel⟩, gq 991 (by decide +kernel) rfl, gq 68 (by decide +kernel) rfl, gq 990 (by decide +kernel) rfl⟩
theorem cvX1_mergeCaption : gCV yX1_mergeCaption cX1_mergeCaption 5 (some .int) 2 := ⟨⟨by decide +kernel, by decide +kernel, by decide +kernel⟩, gq 906 (by decide +kernel) rfl, gq 68 (by decide +kernel) rfl, gq 904 (by decide +kernel) rfl, gq 905 (by decide +kernel) rfl⟩
theorem cvX1_placeCaption : gCV yX1_placeCaption cX1_placeCaption 7 (some .int) 4 := ⟨⟨by decide +kernel, by decide +kernel, by decide +kernel⟩, gq 836 (by decide +kernel) rfl, gq 68 (by decide +kernel) rfl, gq 834 (by decide +kernel) rfl, gq 835 (by decide +kernel) rfl⟩
theorem cvX1_retimeCaptions : gCV yX1_retimeCaptions cX1_retimeCaptions 9 (some .int) 2 := ⟨⟨by decide +kernel, by decide +kernel, by decide +kernel⟩, gq 1003 (by decide +kernel) rfl, gq 68 (by decide +kernel) rfl, gq 1001 (by decide +kernel) rfl, gq 1002 (by decide +kernel) rfl⟩
theorem cvX1_retimeRefusal : gCV yX1_retimeRefusal cX1_retimeRefusal 8 (some .int) 2 := ⟨⟨by decide +kernel, by decide +kernel, by decide +kernel⟩, gq 988 (by decide +kernel) rfl, gq 68 (by decide +kernel) rfl, gq 986 (by decide +kernel) rfl, gq 987 (by decide +kernel) rfl⟩
theorem cvX1_snapCaption : gCV yX1_snapCaption cX1_snapCaption 7 (some .int) 2 := ⟨⟨by decide +kernel, by decide +kernel, by decide +kernel⟩, gq 930 (by decide +kernel) rfl, gq 68 (by decide +kernel) rfl, gq 928 (by decide +kernel) rfl, gq 929 (by decide +kernel) rfl⟩
theorem cvX1_snapRefusal : gCV yX1_snapRefusal cX1_snapRefusal 4 (some .int) 2 := ⟨⟨by decide +kernel, by decide +kernel, by decide +kernel⟩, gq 919 (by decide +kernel) rfl, gq 68 (by decide +kernel) rfl, gq 917 (by decide +kernel) rfl, gq 918 (by decide +kernel) rfl⟩
theorem cvX1_snapped : gCV yX1_snapped cX1_snapped 2 (some .int) 1 := ⟨⟨by decide +kernel, by decide +kernel, by decide +kernel⟩, gq 923 (by decide +kernel) rfl, gq 68 (by decide +kernel) rfl, gq 922 (by decide +kernel) rfl, gq 9 (by decide +kernel) rfl⟩
theorem cvX1_splitCaption : gCV yX1_splitCaption cX1_splitCaption 8 (some .int) 3 := ⟨⟨by decide +kernel, by decide +kernel, by decide +kernel⟩, gq 877 (by decide +kernel) rfl, gq 68 (by decide +kernel) rfl, gq 875 (by decide +kernel) rfl, gq 876 (by decide +kernel) rfl⟩
theorem cvX1_splitRefusal : gCV yX1_splitRefusal cX1_splitRefusal 6 (some .int) 3 := ⟨⟨by decide +kernel, by decide +kernel, by decide +kernel⟩, gq 860 (by decide +kernel) rfl, gq 68 (by decide +kernel) rfl, gq 858 (by decide +kernel) rfl, gq 859 (by decide +kernel) rfl⟩
theorem cvX2_captionsOverCuts : gCV yX2_captionsOverCuts cX2_captionsOverCuts 4 (some .int) 1 := ⟨⟨by decide +kernel, by decide +kernel, by decide +kernel⟩, gq 1085 (by decide +kernel) rfl, gq 66 (by decide +kernel) rfl, gq 1083 (by decide +kernel) rfl, gq 1084 (by decide +kernel) rfl⟩
theorem cvX2_captionsToMerge : gCV yX2_captionsToMerge cX2_captionsToMerge 4 (some .int) 1 := ⟨⟨by decide +kernel, by decide +kernel, by decide +kernel⟩, gq 1090 (by decide +kernel) rfl, gq 66 (by decide +kernel) rfl, gq 1088 (by decide +kernel) rfl, gq 1089 (by decide +kernel) rfl⟩
theorem cvX2_captionsWith : gCV yX2_captionsWith cX2_captionsWith 5 (some .int) 2 := ⟨⟨by decide +kernel, by decide +kernel, by decide +kernel⟩, gq 632 (by decide +kernel) rfl, gq 66 (by decide +kernel) rfl, gq 630 (by decide +kernel) rfl, gq 631 (by decide +kernel) rfl⟩
theorem cvX2_cutsWithin : gCV yX2_cutsWithin cX2_cutsWithin 4 (some .int) 2 := ⟨⟨by decide +kernel, by decide +kernel, by decide +kernel⟩, gq 1022 (by decide +kernel) rfl, gq 66 (by decide +kernel) rfl, gq 1020 (by decide +kernel) rfl, gq 1021 (by decide +kernel) rfl⟩
theorem cvX2_framesOfBoth : gCV yX2_framesOfBoth cX2_framesOfBoth 6 (some .int) 0 := ⟨⟨by decide +kernel, by decide +kernel, by decide +kernel⟩, gq 610 (by decide +kernel) rfl, gq 66 (by decide +kernel) rfl, gq 608 (by decide +kernel) rfl, gq 609 (by decide +kernel) rfl⟩
theorem cvX2_isInStep : gCV yX2_isInStep cX2_isInStep 7 (some .boolean) 2 := ⟨⟨by decide +kernel, by decide +kernel, by decide +kernel⟩, gq 702 (by decide +kernel) rfl, gq 66 (by decide +kernel) rfl, gq 700 (by decide +kernel) rfl, gq 701 (by decide +kernel) rfl⟩
theorem cvX2_isTight : gCV yX2_isTight cX2_isTight 4 (some .boolean) 2 := ⟨⟨by decide +kernel, by decide +kernel, by decide +kernel⟩, gq 690 (by decide +kernel) rfl, gq 66 (by decide +kernel) rfl, gq 688 (by decide +kernel) rfl, gq 689 (by decide +kernel) rfl⟩
theorem cvX2_joinWithNext : gCV yX2_joinWithNext cX2_joinWithNext 4 (some (.object "SubtitleDesk$Text")) 2 := ⟨⟨by decide +kernel, by decide +kernel, by decide +kernel⟩, gq 897 (by decide +kernel) rfl, gq 66 (by decide +kernel) rfl, gq 895 (by decide +kernel) rfl, gq 896 (by decide +kernel) rfl⟩
theorem cvX2_mergeRefusal : gCV yX2_mergeRefusal cX2_mergeRefusal 4 (some .int) 2 := ⟨⟨by decide +kernel, by decide +kernel, by decide +kernel⟩, gq 892 (by decide +kernel) rfl, gq 66 (by decide +kernel) rfl, gq 890 (by decide +kernel) rfl, gq 891 (by decide +kernel) rfl⟩
theorem cvX2_needs : gCV yX2_needs cX2_needs 6 (some .int) 2 := ⟨⟨by decide +kernel, by decide +kernel, by decide +kernel⟩, gq 646 (by decide +kernel) rfl, gq 66 (by decide +kernel) rfl, gq 644 (by decide +kernel) rfl, gq 645 (by decide +kernel) rfl⟩
theorem cvX2_partner : gCV yX2_partner cX2_partner 9 (some .int) 2 := ⟨⟨by decide +kernel, by decide +kernel, by decide +kernel⟩, gq 706 (by decide +kernel) rfl, gq 66 (by decide +kernel) rfl, gq 704 (by decide +kernel) rfl, gq 705 (by decide +kernel) rfl⟩
theorem cvX2_problems : gCV yX2_problems cX2_problems 5 (some .int) 2 := ⟨⟨by decide +kernel, by decide +kernel, by decide +kernel⟩, gq 636 (by decide +kernel) rfl, gq 66 (by decide +kernel) rfl, gq 634 (by decide +kernel) rfl, gq 635 (by decide +kernel) rfl⟩
theorem cvX2_sharedWithPartner : gCV yX2_sharedWithPartner cX2_sharedWithPartner 5 (some .int) 2 := ⟨⟨by decide +kernel, by decide +kernel, by decide +kernel⟩, gq 1028 (by decide +kernel) rfl, gq 66 (by decide +kernel) rfl, gq 1026 (by decide +kernel) rfl, gq 1027 (by decide +kernel) rfl⟩
theorem cvX3_addRefusal : gCV yX3_addRefusal cX3_addRefusal 6 (some .int) 4 := ⟨⟨by decide +kernel, by decide +kernel, by decide +kernel⟩, gq 767 (by decide +kernel) rfl, gq 62 (by decide +kernel) rfl, gq 765 (by decide +kernel) rfl, gq 766 (by decide +kernel) rfl⟩
theorem cvX3_canBeCut : gCV yX3_canBeCut cX3_canBeCut 2 (some .boolean) 1 := ⟨⟨by decide +kernel, by decide +kernel, by decide +kernel⟩, gq 549 (by decide +kernel) rfl, gq 62 (by decide +kernel) rfl, gq 547 (by decide +kernel) rfl, gq 548 (by decide +kernel) rfl⟩
theorem cvX3_captionCount : gCV yX3_captionCount cX3_captionCount 1 (some .int) 0 := ⟨⟨by decide +kernel, by decide +kernel, by decide +kernel⟩, gq 341 (by decide +kernel) rfl, gq 62 (by decide +kernel) rfl, gq 339 (by decide +kernel) rfl, gq 340 (by decide +kernel) rfl⟩
theorem cvX3_changeSetting : gCV yX3_changeSetting cX3_changeSetting 4 (some .int) 2 := ⟨⟨by decide +kernel, by decide +kernel, by decide +kernel⟩, gq 508 (by decide +kernel) rfl, gq 62 (by decide +kernel) rfl, gq 506 (by decide +kernel) rfl, gq 507 (by decide +kernel) rfl⟩
theorem cvX3_copyFrom : gCV yX3_copyFrom cX3_copyFrom 2 none 1 := ⟨⟨by decide +kernel, by decide +kernel, by decide +kernel⟩, gq 327 (by decide +kernel) rfl, gq 62 (by decide +kernel) rfl, gq 325 (by decide +kernel) rfl, gq 326 (by decide +kernel) rfl⟩
theorem cvX3_hasFrame : gCV yX3_hasFrame cX3_hasFrame 2 (some .boolean) 1 := ⟨⟨by decide +kernel, by decide +kernel, by decide +kernel⟩, gq 720 (by decide +kernel) rfl, gq 62 (by decide +kernel) rfl, gq 718 (by decide +kernel) rfl, gq 719 (by decide +kernel) rfl⟩
theorem cvX3_isLoose : gCV yX3_isLoose cX3_isLoose 3 (some .boolean) 1 := ⟨⟨by decide +kernel, by decide +kernel, by decide +kernel⟩, gq 674 (by decide +kernel) rfl, gq 62 (by decide +kernel) rfl, gq 672 (by decide +kernel) rfl, gq 673 (by decide +kernel) rfl⟩
theorem cvX3_lengthRefusal : gCV yX3_lengthRefusal cX3_lengthRefusal 4 (some .int) 1 := ⟨⟨by decide +kernel, by decide +kernel, by decide +kernel⟩, gq 426 (by decide +kernel) rfl, gq 62 (by decide +kernel) rfl, gq 424 (by decide +kernel) rfl, gq 425 (by decide +kernel) rfl⟩
theorem cvX3_placeRefusal : gCV yX3_placeRefusal cX3_placeRefusal 6 (some .int) 4 := ⟨⟨by decide +kernel, by decide +kernel, by decide +kernel⟩, gq 771 (by decide +kernel) rfl, gq 62 (by decide +kernel) rfl, gq 769 (by decide +kernel) rfl, gq 770 (by decide +kernel) rfl⟩
theorem cvX3_setting : gCV yX3_setting cX3_setting 2 (some .int) 1 := ⟨⟨by decide +kernel, by decide +kernel, by decide +kernel⟩, gq 512 (by decide +kernel) rfl, gq 62 (by decide +kernel) rfl, gq 510 (by decide +kernel) rfl, gq 511 (by decide +kernel) rfl⟩
theorem cvX3_spanRefusal : gCV yX3_spanRefusal cX3_spanRefusal 3 (some .int) 2 := ⟨⟨by decide +kernel, by decide +kernel, by decide +kernel⟩, gq 775 (by decide +kernel) rfl, gq 62 (by decide +kernel) rfl, gq 773 (by decide +kernel) rfl, gq 774 (by decide +kernel) rfl⟩
theorem cvX3_trackBeside : gCV yX3_trackBeside cX3_trackBeside 2 (some (.object "SubtitleDesk$Track")) 1 := ⟨⟨by decide +kernel, by decide +kernel, by decide +kernel⟩, gq 615 (by decide +kernel) rfl, gq 62 (by decide +kernel) rfl, gq 613 (by decide +kernel) rfl, gq 614 (by decide +kernel) rfl⟩
theorem cvX3_trackOf : gCV yX3_trackOf cX3_trackOf 2 (some (.object "SubtitleDesk$Track")) 1 := ⟨⟨by decide +kernel, by decide +kernel, by decide +kernel⟩, gq 430 (by decide +kernel) rfl, gq 62 (by decide +kernel) rfl, gq 428 (by decide +kernel) rfl, gq 429 (by decide +kernel) rfl⟩
theorem cvX4_commit : gCV yX4_commit cX4_commit 1 none 0 := ⟨⟨by decide +kernel, by decide +kernel, by decide +kernel⟩, gq 483 (by decide +kernel) rfl, gq 69 (by decide +kernel) rfl, gq 481 (by decide +kernel) rfl, gq 482 (by decide +kernel) rfl⟩
theorem cvX4_forgetAll : gCV yX4_forgetAll cX4_forgetAll 1 none 0 := ⟨⟨by decide +kernel, by decide +kernel, by decide +kernel⟩, gq 1267 (by decide +kernel) rfl, gq 69 (by decide +kernel) rfl, gq 1265 (by decide +kernel) rfl, gq 1266 (by decide +kernel) rfl⟩
theorem cvX4_keep : gCV yX4_keep cX4_keep 2 none 1 := ⟨⟨by decide +kernel, by decide +kernel, by decide +kernel⟩, gq 470 (by decide +kernel) rfl, gq 69 (by decide +kernel) rfl, gq 468 (by decide +kernel) rfl, gq 469 (by decide +kernel) rfl⟩
theorem cvX4_prepare : gCV yX4_prepare cX4_prepare 3 none 1 := ⟨⟨by decide +kernel, by decide +kernel, by decide +kernel⟩, gq 474 (by decide +kernel) rfl, gq 69 (by decide +kernel) rfl, gq 472 (by decide +kernel) rfl, gq 473 (by decide +kernel) rfl⟩
theorem cvX4_rowAt : gCV yX4_rowAt cX4_rowAt 2 (some (.object "SubtitleDesk$Film")) 1 := ⟨⟨by decide +kernel, by decide +kernel, by decide +kernel⟩, gq 478 (by decide +kernel) rfl, gq 69 (by decide +kernel) rfl, gq 477 (by decide +kernel) rfl, gq 3 (by decide +kernel) rfl⟩
theorem cvX4_takeBackInto : gCV yX4_takeBackInto cX4_takeBackInto 3 none 1 := ⟨⟨by decide +kernel, by decide +kernel, by decide +kernel⟩, gq 1223 (by decide +kernel) rfl, gq 69 (by decide +kernel) rfl, gq 1221 (by decide +kernel) rfl, gq 1222 (by decide +kernel) rfl⟩
theorem cvX4_undoInto : gCV yX4_undoInto cX4_undoInto 2 none 1 := ⟨⟨by decide +kernel, by decide +kernel, by decide +kernel⟩, gq 1254 (by decide +kernel) rfl, gq 69 (by decide +kernel) rfl, gq 1252 (by decide +kernel) rfl, gq 1253 (by decide +kernel) rfl⟩
theorem cvX5_end : gCV yX5_end cX5_end 2 (some .int) 1 := ⟨⟨by decide +kernel, by decide +kernel, by decide +kernel⟩, gq 1215 (by decide +kernel) rfl, gq 70 (by decide +kernel) rfl, gq 1213 (by decide +kernel) rfl, gq 1214 (by decide +kernel) rfl⟩
theorem cvX5_first : gCV yX5_first cX5_first 2 (some .int) 1 := ⟨⟨by decide +kernel, by decide +kernel, by decide +kernel⟩, gq 1191 (by decide +kernel) rfl, gq 70 (by decide +kernel) rfl, gq 1189 (by decide +kernel) rfl, gq 1190 (by decide +kernel) rfl⟩
theorem csX5_isDigit : gCS yX5_isDigit cX5_isDigit 1 (some .boolean) 1 := ⟨⟨by decide +kernel, by decide +kernel, by decide +kernel⟩, gq 1158 (by decide +kernel) rfl, gq 70 (by decide +kernel) rfl, gq 1157 (by decide +kernel) rfl⟩
theorem csX5_isItem : gCS yX5_isItem cX5_isItem 1 (some .boolean) 1 := ⟨⟨by decide +kernel, by decide +kernel, by decide +kernel⟩, gq 1161 (by decide +kernel) rfl, gq 70 (by decide +kernel) rfl, gq 1160 (by decide +kernel) rfl⟩
theorem cvX5_kind : gCV yX5_kind cX5_kind 2 (some .int) 1 := ⟨⟨by decide +kernel, by decide +kernel, by decide +kernel⟩, gq 1219 (by decide +kernel) rfl, gq 70 (by decide +kernel) rfl, gq 1217 (by decide +kernel) rfl, gq 1218 (by decide +kernel) rfl⟩
theorem cvX5_readCaption : gCV yX5_readCaption cX5_readCaption 6 (some .boolean) 1 := ⟨⟨by decide +kernel, by decide +kernel, by decide +kernel⟩, gq 1165 (by decide +kernel) rfl, gq 70 (by decide +kernel) rfl, gq 1164 (by decide +kernel) rfl, gq 14 (by decide +kernel) rfl⟩
theorem cvX5_readCut : gCV yX5_readCut cX5_readCut 4 (some .boolean) 2 := ⟨⟨by decide +kernel, by decide +kernel, by decide +kernel⟩, gq 1151 (by decide +kernel) rfl, gq 70 (by decide +kernel) rfl, gq 1150 (by decide +kernel) rfl, gq 12 (by decide +kernel) rfl⟩
theorem cvX5_readItem : gCV yX5_readItem cX5_readItem 2 (some .boolean) 1 := ⟨⟨by decide +kernel, by decide +kernel, by decide +kernel⟩, gq 1142 (by decide +kernel) rfl, gq 70 (by decide +kernel) rfl, gq 1141 (by decide +kernel) rfl, gq 10 (by decide +kernel) rfl⟩
theorem cvX5_readNumber : gCV yX5_readNumber cX5_readNumber 3 (some .int) 0 := ⟨⟨by decide +kernel, by decide +kernel, by decide +kernel⟩, gq 1155 (by decide +kernel) rfl, gq 70 (by decide +kernel) rfl, gq 1154 (by decide +kernel) rfl, gq 13 (by decide +kernel) rfl⟩
theorem cvX5_readText : gCV yX5_readText cX5_readText 3 (some .boolean) 1 := ⟨⟨by decide +kernel, by decide +kernel, by decide +kernel⟩, gq 1138 (by decide +kernel) rfl, gq 70 (by decide +kernel) rfl, gq 1136 (by decide +kernel) rfl, gq 1137 (by decide +kernel) rfl⟩
theorem cvX5_skipWords : gCV yX5_skipWords cX5_skipWords 2 none 0 := ⟨⟨by decide +kernel, by decide +kernel, by decide +kernel⟩, gq 1173 (by decide +kernel) rfl, gq 70 (by decide +kernel) rfl, gq 1172 (by decide +kernel) rfl, gq 16 (by decide +kernel) rfl⟩
theorem cvX5_takeOneOf : gCV yX5_takeOneOf cX5_takeOneOf 6 (some .int) 3 := ⟨⟨by decide +kernel, by decide +kernel, by decide +kernel⟩, gq 1169 (by decide +kernel) rfl, gq 70 (by decide +kernel) rfl, gq 1168 (by decide +kernel) rfl, gq 15 (by decide +kernel) rfl⟩
theorem cvX5_takeSign : gCV yX5_takeSign cX5_takeSign 2 (some .boolean) 1 := ⟨⟨by decide +kernel, by decide +kernel, by decide +kernel⟩, gq 1146 (by decide +kernel) rfl, gq 70 (by decide +kernel) rfl, gq 1145 (by decide +kernel) rfl, gq 11 (by decide +kernel) rfl⟩
theorem cvX5_trackOfItem : gCV yX5_trackOfItem cX5_trackOfItem 2 (some .int) 1 := ⟨⟨by decide +kernel, by decide +kernel, by decide +kernel⟩, gq 1211 (by decide +kernel) rfl, gq 70 (by decide +kernel) rfl, gq 1209 (by decide +kernel) rfl, gq 1210 (by decide +kernel) rfl⟩
theorem cvX5_what : gCV yX5_what cX5_what 2 (some .int) 1 := ⟨⟨by decide +kernel, by decide +kernel, by decide +kernel⟩, gq 1187 (by decide +kernel) rfl, gq 70 (by decide +kernel) rfl, gq 1185 (by decide +kernel) rfl, gq 1186 (by decide +kernel) rfl⟩
theorem cvX5_wordsFrom : gCV yX5_wordsFrom cX5_wordsFrom 2 (some .int) 1 := ⟨⟨by decide +kernel, by decide +kernel, by decide +kernel⟩, gq 1203 (by decide +kernel) rfl, gq 70 (by decide +kernel) rfl, gq 1201 (by decide +kernel) rfl, gq 1202 (by decide +kernel) rfl⟩
theorem cvX5_wordsTo : gCV yX5_wordsTo cX5_wordsTo 2 (some .int) 1 := ⟨⟨by decide +kernel, by decide +kernel, by decide +kernel⟩, gq 1207 (by decide +kernel) rfl, gq 70 (by decide +kernel) rfl, gq 1205 (by decide +kernel) rfl, gq 1206 (by decide +kernel) rfl⟩
theorem cvX6_frameFor : gCV yX6_frameFor cX6_frameFor 2 (some .int) 1 := ⟨⟨by decide +kernel, by decide +kernel, by decide +kernel⟩, gq 995 (by decide +kernel) rfl, gq 82 (by decide +kernel) rfl, gq 993 (by decide +kernel) rfl, gq 994 (by decide +kernel) rfl⟩
theorem cvX7_append : gCV yX7_append cX7_append 2 (some .boolean) 1 := ⟨⟨by decide +kernel, by decide +kernel, by decide +kernel⟩, gq 733 (by decide +kernel) rfl, gq 67 (by decide +kernel) rfl, gq 731 (by decide +kernel) rfl, gq 732 (by decide +kernel) rfl⟩
theorem cvX7_appendPart : gCV yX7_appendPart cX7_appendPart 6 none 3 := ⟨⟨by decide +kernel, by decide +kernel, by decide +kernel⟩, gq 749 (by decide +kernel) rfl, gq 67 (by decide +kernel) rfl, gq 747 (by decide +kernel) rfl, gq 748 (by decide +kernel) rfl⟩
theorem cvX7_clear : gCV yX7_clear cX7_clear 1 none 0 := ⟨⟨by decide +kernel, by decide +kernel, by decide +kernel⟩, gq 745 (by decide +kernel) rfl, gq 67 (by decide +kernel) rfl, gq 743 (by decide +kernel) rfl, gq 744 (by decide +kernel) rfl⟩
theorem cvX7_isValid : gCV yX7_isValid cX7_isValid 4 (some .boolean) 0 := ⟨⟨by decide +kernel, by decide +kernel, by decide +kernel⟩, gq 784 (by decide +kernel) rfl, gq 67 (by decide +kernel) rfl, gq 782 (by decide +kernel) rfl, gq 783 (by decide +kernel) rfl⟩
theorem cvX7_signAt : gCV yX7_signAt cX7_signAt 2 (some .int) 1 := ⟨⟨by decide +kernel, by decide +kernel, by decide +kernel⟩, gq 753 (by decide +kernel) rfl, gq 67 (by decide +kernel) rfl, gq 751 (by decide +kernel) rfl, gq 752 (by decide +kernel) rfl⟩
theorem cvX8_allFrames : gCV yX8_allFrames cX8_allFrames 3 (some .int) 0 := ⟨⟨by decide +kernel, by decide +kernel, by decide +kernel⟩, gq 1075 (by decide +kernel) rfl, gq 65 (by decide +kernel) rfl, gq 1073 (by decide +kernel) rfl, gq 1074 (by decide +kernel) rfl⟩
theorem cvX8_allLoad : gCV yX8_allLoad cX8_allLoad 3 (some .int) 0 := ⟨⟨by decide +kernel, by decide +kernel, by decide +kernel⟩, gq 1080 (by decide +kernel) rfl, gq 65 (by decide +kernel) rfl, gq 1078 (by decide +kernel) rfl, gq 1079 (by decide +kernel) rfl⟩
theorem cvX8_appendTextTo : gCV yX8_appendTextTo cX8_appendTextTo 7 none 4 := ⟨⟨by decide +kernel, by decide +kernel, by decide +kernel⟩, gq 844 (by decide +kernel) rfl, gq 65 (by decide +kernel) rfl, gq 842 (by decide +kernel) rfl, gq 843 (by decide +kernel) rfl⟩
theorem cvX8_captionOn : gCV yX8_captionOn cX8_captionOn 3 (some .int) 1 := ⟨⟨by decide +kernel, by decide +kernel, by decide +kernel⟩, gq 1063 (by decide +kernel) rfl, gq 65 (by decide +kernel) rfl, gq 1061 (by decide +kernel) rfl, gq 1062 (by decide +kernel) rfl⟩
theorem cvX8_closeRow : gCV yX8_closeRow cX8_closeRow 3 none 1 := ⟨⟨by decide +kernel, by decide +kernel, by decide +kernel⟩, gq 824 (by decide +kernel) rfl, gq 65 (by decide +kernel) rfl, gq 822 (by decide +kernel) rfl, gq 823 (by decide +kernel) rfl⟩
theorem cvX8_copyFrom : gCV yX8_copyFrom cX8_copyFrom 2 none 1 := ⟨⟨by decide +kernel, by decide +kernel, by decide +kernel⟩, gq 336 (by decide +kernel) rfl, gq 65 (by decide +kernel) rfl, gq 334 (by decide +kernel) rfl, gq 335 (by decide +kernel) rfl⟩
theorem cvX8_copyRow : gCV yX8_copyRow cX8_copyRow 3 none 2 := ⟨⟨by decide +kernel, by decide +kernel, by decide +kernel⟩, gq 798 (by decide +kernel) rfl, gq 65 (by decide +kernel) rfl, gq 797 (by decide +kernel) rfl, gq 5 (by decide +kernel) rfl⟩
theorem cvX8_densest : gCV yX8_densest cX8_densest 3 (some .int) 0 := ⟨⟨by decide +kernel, by decide +kernel, by decide +kernel⟩, gq 1102 (by decide +kernel) rfl, gq 65 (by decide +kernel) rfl, gq 1100 (by decide +kernel) rfl, gq 1101 (by decide +kernel) rfl⟩
theorem cvX8_end : gCV yX8_end cX8_end 2 (some .int) 1 := ⟨⟨by decide +kernel, by decide +kernel, by decide +kernel⟩, gq 434 (by decide +kernel) rfl, gq 65 (by decide +kernel) rfl, gq 432 (by decide +kernel) rfl, gq 433 (by decide +kernel) rfl⟩
theorem cvX8_first : gCV yX8_first cX8_first 2 (some .int) 1 := ⟨⟨by decide +kernel, by decide +kernel, by decide +kernel⟩, gq 619 (by decide +kernel) rfl, gq 65 (by decide +kernel) rfl, gq 617 (by decide +kernel) rfl, gq 618 (by decide +kernel) rfl⟩
theorem cvX8_frames : gCV yX8_frames cX8_frames 2 (some .int) 1 := ⟨⟨by decide +kernel, by decide +kernel, by decide +kernel⟩, gq 640 (by decide +kernel) rfl, gq 65 (by decide +kernel) rfl, gq 638 (by decide +kernel) rfl, gq 639 (by decide +kernel) rfl⟩
theorem cvX8_gapBefore : gCV yX8_gapBefore cX8_gapBefore 2 (some .int) 1 := ⟨⟨by decide +kernel, by decide +kernel, by decide +kernel⟩, gq 694 (by decide +kernel) rfl, gq 65 (by decide +kernel) rfl, gq 692 (by decide +kernel) rfl, gq 693 (by decide +kernel) rfl⟩
theorem cvX8_has : gCV yX8_has cX8_has 2 (some .boolean) 1 := ⟨⟨by decide +kernel, by decide +kernel, by decide +kernel⟩, gq 438 (by decide +kernel) rfl, gq 65 (by decide +kernel) rfl, gq 436 (by decide +kernel) rfl, gq 437 (by decide +kernel) rfl⟩
theorem cvX8_insertCaption : gCV yX8_insertCaption cX8_insertCaption 7 (some .int) 4 := ⟨⟨by decide +kernel, by decide +kernel, by decide +kernel⟩, gq 791 (by decide +kernel) rfl, gq 65 (by decide +kernel) rfl, gq 789 (by decide +kernel) rfl, gq 790 (by decide +kernel) rfl⟩
theorem csX8_isRow : gCS yX8_isRow cX8_isRow 1 (some .boolean) 1 := ⟨⟨by decide +kernel, by decide +kernel, by decide +kernel⟩, gq 794 (by decide +kernel) rfl, gq 65 (by decide +kernel) rfl, gq 793 (by decide +kernel) rfl⟩
theorem cvX8_kind : gCV yX8_kind cX8_kind 2 (some .int) 1 := ⟨⟨by decide +kernel, by decide +kernel, by decide +kernel⟩, gq 650 (by decide +kernel) rfl, gq 65 (by decide +kernel) rfl, gq 648 (by decide +kernel) rfl, gq 649 (by decide +kernel) rfl⟩
theorem cvX8_load : gCV yX8_load cX8_load 2 (some .int) 1 := ⟨⟨by decide +kernel, by decide +kernel, by decide +kernel⟩, gq 654 (by decide +kernel) rfl, gq 65 (by decide +kernel) rfl, gq 652 (by decide +kernel) rfl, gq 653 (by decide +kernel) rfl⟩
theorem cvX8_loadBetween : gCV yX8_loadBetween cX8_loadBetween 6 (some .int) 3 := ⟨⟨by decide +kernel, by decide +kernel, by decide +kernel⟩, gq 662 (by decide +kernel) rfl, gq 65 (by decide +kernel) rfl, gq 660 (by decide +kernel) rfl, gq 661 (by decide +kernel) rfl⟩
theorem cvX8_longestLine : gCV yX8_longestLine cX8_longestLine 5 (some .int) 1 := ⟨⟨by decide +kernel, by decide +kernel, by decide +kernel⟩, gq 698 (by decide +kernel) rfl, gq 65 (by decide +kernel) rfl, gq 696 (by decide +kernel) rfl, gq 697 (by decide +kernel) rfl⟩
theorem cvX8_setFrames : gCV yX8_setFrames cX8_setFrames 4 none 3 := ⟨⟨by decide +kernel, by decide +kernel, by decide +kernel⟩, gq 802 (by decide +kernel) rfl, gq 65 (by decide +kernel) rfl, gq 800 (by decide +kernel) rfl, gq 801 (by decide +kernel) rfl⟩
theorem cvX8_setText : gCV yX8_setText cX8_setText 4 none 2 := ⟨⟨by decide +kernel, by decide +kernel, by decide +kernel⟩, gq 806 (by decide +kernel) rfl, gq 65 (by decide +kernel) rfl, gq 804 (by decide +kernel) rfl, gq 805 (by decide +kernel) rfl⟩
theorem cvX8_shared : gCV yX8_shared cX8_shared 4 (some .int) 3 := ⟨⟨by decide +kernel, by decide +kernel, by decide +kernel⟩, gq 624 (by decide +kernel) rfl, gq 65 (by decide +kernel) rfl, gq 622 (by decide +kernel) rfl, gq 623 (by decide +kernel) rfl⟩
theorem cvX8_sharesWithOthers : gCV yX8_sharesWithOthers cX8_sharesWithOthers 5 (some .boolean) 3 := ⟨⟨by decide +kernel, by decide +kernel, by decide +kernel⟩, gq 779 (by decide +kernel) rfl, gq 65 (by decide +kernel) rfl, gq 777 (by decide +kernel) rfl, gq 778 (by decide +kernel) rfl⟩
theorem cvX8_signAt : gCV yX8_signAt cX8_signAt 3 (some .int) 2 := ⟨⟨by decide +kernel, by decide +kernel, by decide +kernel⟩, gq 666 (by decide +kernel) rfl, gq 65 (by decide +kernel) rfl, gq 664 (by decide +kernel) rfl, gq 665 (by decide +kernel) rfl⟩
theorem cvX8_size : gCV yX8_size cX8_size 2 (some .int) 1 := ⟨⟨by decide +kernel, by decide +kernel, by decide +kernel⟩, gq 658 (by decide +kernel) rfl, gq 65 (by decide +kernel) rfl, gq 656 (by decide +kernel) rfl, gq 657 (by decide +kernel) rfl⟩
theorem cvX9_add : gCV yX9_add cX9_add 5 (some .int) 4 := ⟨⟨by decide +kernel, by decide +kernel, by decide +kernel⟩, gq 741 (by decide +kernel) rfl, gq 61 (by decide +kernel) rfl, gq 739 (by decide +kernel) rfl, gq 740 (by decide +kernel) rfl⟩
theorem csX9_arePoints : gCS yX9_arePoints cX9_arePoints 4 (some .boolean) 4 := ⟨⟨by decide +kernel, by decide +kernel, by decide +kernel⟩, gq 960 (by decide +kernel) rfl, gq 61 (by decide +kernel) rfl, gq 959 (by decide +kernel) rfl⟩
theorem cvX9_caption : gCV yX9_caption cX9_caption 5 (some .int) 3 := ⟨⟨by decide +kernel, by decide +kernel, by decide +kernel⟩, gq 1010 (by decide +kernel) rfl, gq 61 (by decide +kernel) rfl, gq 1008 (by decide +kernel) rfl, gq 1009 (by decide +kernel) rfl⟩
theorem cvX9_carryOutItem : gCV yX9_carryOutItem cX9_carryOutItem 4 (some .int) 1 := ⟨⟨by decide +kernel, by decide +kernel, by decide +kernel⟩, gq 1183 (by decide +kernel) rfl, gq 61 (by decide +kernel) rfl, gq 1182 (by decide +kernel) rfl, gq 18 (by decide +kernel) rfl⟩
theorem cvX9_carryOutItems : gCV yX9_carryOutItems cX9_carryOutItems 3 (some .boolean) 0 := ⟨⟨by decide +kernel, by decide +kernel, by decide +kernel⟩, gq 1178 (by decide +kernel) rfl, gq 61 (by decide +kernel) rfl, gq 1177 (by decide +kernel) rfl, gq 17 (by decide +kernel) rfl⟩
theorem cvX9_cut : gCV yX9_cut cX9_cut 3 (some .int) 2 := ⟨⟨by decide +kernel, by decide +kernel, by decide +kernel⟩, gq 545 (by decide +kernel) rfl, gq 61 (by decide +kernel) rfl, gq 543 (by decide +kernel) rfl, gq 544 (by decide +kernel) rfl⟩
theorem csX9_distance : gCS yX9_distance cX9_distance 2 (some .int) 2 := ⟨⟨by decide +kernel, by decide +kernel, by decide +kernel⟩, gq 682 (by decide +kernel) rfl, gq 61 (by decide +kernel) rfl, gq 681 (by decide +kernel) rfl⟩
theorem csX9_dividedUp : gCS yX9_dividedUp cX9_dividedUp 2 (some .int) 2 := ⟨⟨by decide +kernel, by decide +kernel, by decide +kernel⟩, gq 670 (by decide +kernel) rfl, gq 61 (by decide +kernel) rfl, gq 669 (by decide +kernel) rfl⟩
theorem cvX9_fastest : gCV yX9_fastest cX9_fastest 3 (some .int) 1 := ⟨⟨by decide +kernel, by decide +kernel, by decide +kernel⟩, gq 1098 (by decide +kernel) rfl, gq 61 (by decide +kernel) rfl, gq 1096 (by decide +kernel) rfl, gq 1097 (by decide +kernel) rfl⟩
theorem cvX9_faultPosition : gCV yX9_faultPosition cX9_faultPosition 1 (some .int) 0 := ⟨⟨by decide +kernel, by decide +kernel, by decide +kernel⟩, gq 1233 (by decide +kernel) rfl, gq 61 (by decide +kernel) rfl, gq 1231 (by decide +kernel) rfl, gq 1232 (by decide +kernel) rfl⟩
theorem cvX9_feed : gCV yX9_feed cX9_feed 2 (some .int) 1 := ⟨⟨by decide +kernel, by decide +kernel, by decide +kernel⟩, gq 729 (by decide +kernel) rfl, gq 61 (by decide +kernel) rfl, gq 727 (by decide +kernel) rfl, gq 728 (by decide +kernel) rfl⟩
theorem cvX9_film : gCV yX9_film cX9_film 3 (some .int) 1 := ⟨⟨by decide +kernel, by decide +kernel, by decide +kernel⟩, gq 350 (by decide +kernel) rfl, gq 61 (by decide +kernel) rfl, gq 348 (by decide +kernel) rfl, gq 349 (by decide +kernel) rfl⟩
theorem cvX9_fit : gCV yX9_fit cX9_fit 3 (some .int) 2 := ⟨⟨by decide +kernel, by decide +kernel, by decide +kernel⟩, gq 938 (by decide +kernel) rfl, gq 61 (by decide +kernel) rfl, gq 936 (by decide +kernel) rfl, gq 937 (by decide +kernel) rfl⟩
theorem csX9_isPointFrame : gCS yX9_isPointFrame cX9_isPointFrame 1 (some .boolean) 1 := ⟨⟨by decide +kernel, by decide +kernel, by decide +kernel⟩, gq 963 (by decide +kernel) rfl, gq 61 (by decide +kernel) rfl, gq 962 (by decide +kernel) rfl⟩
theorem csX9_isSetting : gCS yX9_isSetting cX9_isSetting 1 (some .boolean) 1 := ⟨⟨by decide +kernel, by decide +kernel, by decide +kernel⟩, gq 499 (by decide +kernel) rfl, gq 61 (by decide +kernel) rfl, gq 498 (by decide +kernel) rfl⟩
theorem csX9_isSettingValue : gCS yX9_isSettingValue cX9_isSettingValue 2 (some .boolean) 2 := ⟨⟨by decide +kernel, by decide +kernel, by decide +kernel⟩, gq 496 (by decide +kernel) rfl, gq 61 (by decide +kernel) rfl, gq 495 (by decide +kernel) rfl⟩
theorem csX9_isTrack : gCS yX9_isTrack cX9_isTrack 1 (some .boolean) 1 := ⟨⟨by decide +kernel, by decide +kernel, by decide +kernel⟩, gq 761 (by decide +kernel) rfl, gq 61 (by decide +kernel) rfl, gq 760 (by decide +kernel) rfl⟩
theorem csX9_isWordSign : gCS yX9_isWordSign cX9_isWordSign 1 (some .boolean) 1 := ⟨⟨by decide +kernel, by decide +kernel, by decide +kernel⟩, gq 787 (by decide +kernel) rfl, gq 61 (by decide +kernel) rfl, gq 786 (by decide +kernel) rfl⟩
theorem cvX9_keepRefusal : gCV yX9_keepRefusal cX9_keepRefusal 3 none 2 := ⟨⟨by decide +kernel, by decide +kernel, by decide +kernel⟩, gq 450 (by decide +kernel) rfl, gq 61 (by decide +kernel) rfl, gq 449 (by decide +kernel) rfl, gq 2 (by decide +kernel) rfl⟩
theorem cvX9_letter : gCV yX9_letter cX9_letter 5 (some .char) 3 := ⟨⟨by decide +kernel, by decide +kernel, by decide +kernel⟩, gq 1036 (by decide +kernel) rfl, gq 61 (by decide +kernel) rfl, gq 1034 (by decide +kernel) rfl, gq 1035 (by decide +kernel) rfl⟩
theorem cvX9_merge : gCV yX9_merge cX9_merge 3 (some .int) 2 := ⟨⟨by decide +kernel, by decide +kernel, by decide +kernel⟩, gq 888 (by decide +kernel) rfl, gq 61 (by decide +kernel) rfl, gq 886 (by decide +kernel) rfl, gq 887 (by decide +kernel) rfl⟩
theorem cvX9_move : gCV yX9_move cX9_move 5 (some .int) 4 := ⟨⟨by decide +kernel, by decide +kernel, by decide +kernel⟩, gq 831 (by decide +kernel) rfl, gq 61 (by decide +kernel) rfl, gq 829 (by decide +kernel) rfl, gq 830 (by decide +kernel) rfl⟩
theorem cvX9_number : gCV yX9_number cX9_number 2 (some .int) 1 := ⟨⟨by decide +kernel, by decide +kernel, by decide +kernel⟩, gq 605 (by decide +kernel) rfl, gq 61 (by decide +kernel) rfl, gq 603 (by decide +kernel) rfl, gq 604 (by decide +kernel) rfl⟩
theorem cvX9_passOrRefuse : gCV yX9_passOrRefuse cX9_passOrRefuse 2 none 1 := ⟨⟨by decide +kernel, by decide +kernel, by decide +kernel⟩, gq 446 (by decide +kernel) rfl, gq 61 (by decide +kernel) rfl, gq 445 (by decide +kernel) rfl, gq 1 (by decide +kernel) rfl⟩
theorem cvX9_read : gCV yX9_read cX9_read 3 (some .int) 0 := ⟨⟨by decide +kernel, by decide +kernel, by decide +kernel⟩, gq 1134 (by decide +kernel) rfl, gq 61 (by decide +kernel) rfl, gq 1132 (by decide +kernel) rfl, gq 1133 (by decide +kernel) rfl⟩
theorem cvX9_refusal : gCV yX9_refusal cX9_refusal 2 (some .int) 1 := ⟨⟨by decide +kernel, by decide +kernel, by decide +kernel⟩, gq 1241 (by decide +kernel) rfl, gq 61 (by decide +kernel) rfl, gq 1239 (by decide +kernel) rfl, gq 1240 (by decide +kernel) rfl⟩
theorem cvX9_remove : gCV yX9_remove cX9_remove 4 (some .int) 2 := ⟨⟨by decide +kernel, by decide +kernel, by decide +kernel⟩, gq 814 (by decide +kernel) rfl, gq 61 (by decide +kernel) rfl, gq 812 (by decide +kernel) rfl, gq 813 (by decide +kernel) rfl⟩
theorem cvX9_requireCaption : gCV yX9_requireCaption cX9_requireCaption 3 none 2 := ⟨⟨by decide +kernel, by decide +kernel, by decide +kernel⟩, gq 818 (by decide +kernel) rfl, gq 61 (by decide +kernel) rfl, gq 817 (by decide +kernel) rfl, gq 6 (by decide +kernel) rfl⟩
theorem cvX9_requireTrack : gCV yX9_requireTrack cX9_requireTrack 2 none 1 := ⟨⟨by decide +kernel, by decide +kernel, by decide +kernel⟩, gq 758 (by decide +kernel) rfl, gq 61 (by decide +kernel) rfl, gq 757 (by decide +kernel) rfl, gq 4 (by decide +kernel) rfl⟩
theorem cvX9_restoreSnapshot : gCV yX9_restoreSnapshot cX9_restoreSnapshot 1 (some .int) 0 := ⟨⟨by decide +kernel, by decide +kernel, by decide +kernel⟩, gq 1262 (by decide +kernel) rfl, gq 61 (by decide +kernel) rfl, gq 1260 (by decide +kernel) rfl, gq 1261 (by decide +kernel) rfl⟩
theorem cvX9_retime : gCV yX9_retime cX9_retime 7 (some .int) 5 := ⟨⟨by decide +kernel, by decide +kernel, by decide +kernel⟩, gq 957 (by decide +kernel) rfl, gq 61 (by decide +kernel) rfl, gq 955 (by decide +kernel) rfl, gq 956 (by decide +kernel) rfl⟩
theorem cvX9_saveSnapshot : gCV yX9_saveSnapshot cX9_saveSnapshot 1 (some .int) 0 := ⟨⟨by decide +kernel, by decide +kernel, by decide +kernel⟩, gq 323 (by decide +kernel) rfl, gq 61 (by decide +kernel) rfl, gq 321 (by decide +kernel) rfl, gq 322 (by decide +kernel) rfl⟩
theorem cvX9_set : gCV yX9_set cX9_set 3 (some .int) 2 := ⟨⟨by decide +kernel, by decide +kernel, by decide +kernel⟩, gq 493 (by decide +kernel) rfl, gq 61 (by decide +kernel) rfl, gq 491 (by decide +kernel) rfl, gq 492 (by decide +kernel) rfl⟩
theorem cvX9_shot : gCV yX9_shot cX9_shot 2 (some .int) 1 := ⟨⟨by decide +kernel, by decide +kernel, by decide +kernel⟩, gq 716 (by decide +kernel) rfl, gq 61 (by decide +kernel) rfl, gq 714 (by decide +kernel) rfl, gq 715 (by decide +kernel) rfl⟩
theorem cvX9_shown : gCV yX9_shown cX9_shown 4 (some .int) 2 := ⟨⟨by decide +kernel, by decide +kernel, by decide +kernel⟩, gq 1059 (by decide +kernel) rfl, gq 61 (by decide +kernel) rfl, gq 1057 (by decide +kernel) rfl, gq 1058 (by decide +kernel) rfl⟩
theorem cvX9_snap : gCV yX9_snap cX9_snap 3 (some .int) 2 := ⟨⟨by decide +kernel, by decide +kernel, by decide +kernel⟩, gq 915 (by decide +kernel) rfl, gq 61 (by decide +kernel) rfl, gq 913 (by decide +kernel) rfl, gq 914 (by decide +kernel) rfl⟩
theorem cvX9_speed : gCV yX9_speed cX9_speed 3 (some .double) 1 := ⟨⟨by decide +kernel, by decide +kernel, by decide +kernel⟩, gq 1124 (by decide +kernel) rfl, gq 61 (by decide +kernel) rfl, gq 1122 (by decide +kernel) rfl, gq 1123 (by decide +kernel) rfl⟩
theorem cvX9_split : gCV yX9_split cX9_split 4 (some .int) 3 := ⟨⟨by decide +kernel, by decide +kernel, by decide +kernel⟩, gq 854 (by decide +kernel) rfl, gq 61 (by decide +kernel) rfl, gq 852 (by decide +kernel) rfl, gq 853 (by decide +kernel) rfl⟩
theorem cvX9_track : gCV yX9_track cX9_track 3 (some .int) 2 := ⟨⟨by decide +kernel, by decide +kernel, by decide +kernel⟩, gq 1071 (by decide +kernel) rfl, gq 61 (by decide +kernel) rfl, gq 1069 (by decide +kernel) rfl, gq 1070 (by decide +kernel) rfl⟩
theorem cvX9_undo : gCV yX9_undo cX9_undo 1 (some .int) 0 := ⟨⟨by decide +kernel, by decide +kernel, by decide +kernel⟩, gq 1249 (by decide +kernel) rfl, gq 61 (by decide +kernel) rfl, gq 1247 (by decide +kernel) rfl, gq 1248 (by decide +kernel) rfl⟩
theorem mwX1_100 : Cond.methodLink RX1 100 Lib.Math.max.name ∈ lwg ∧ Cond.static Lib.Math.max.name ∈ lwg ∧ Cond.initialized "java/lang/Math" ∈ lwg ∧ Cond.code Lib.Math.max.name Lib.Math.max.code 2 (some .int) ∈ lwg := ⟨mlX1_100, gq 627 (by decide +kernel) rfl, gq 77 (by decide +kernel) rfl, gq 628 (by decide +kernel) rfl⟩
theorem mwX8_59 : Cond.methodLink RX8 59 Lib.Math.max.name ∈ lwg ∧ Cond.static Lib.Math.max.name ∈ lwg ∧ Cond.initialized "java/lang/Math" ∈ lwg ∧ Cond.code Lib.Math.max.name Lib.Math.max.code 2 (some .int) ∈ lwg := ⟨mlX8_59, gq 627 (by decide +kernel) rfl, gq 77 (by decide +kernel) rfl, gq 628 (by decide +kernel) rfl⟩
theorem mwX1_143 : Cond.methodLink RX1 143 Lib.Math.min.name ∈ lwg ∧ Cond.static Lib.Math.min.name ∈ lwg ∧ Cond.initialized "java/lang/Math" ∈ lwg ∧ Cond.code Lib.Math.min.name Lib.Math.min.code 2 (some .int) ∈ lwg := ⟨mlX1_143, gq 485 (by decide +kernel) rfl, gq 77 (by decide +kernel) rfl, gq 486 (by decide +kernel) rfl⟩
theorem mwX4_39 : Cond.methodLink RX4 39 Lib.Math.min.name ∈ lwg ∧ Cond.static Lib.Math.min.name ∈ lwg ∧ Cond.initialized "java/lang/Math" ∈ lwg ∧ Cond.code Lib.Math.min.name Lib.Math.min.code 2 (some .int) ∈ lwg := ⟨mlX4_39, gq 485 (by decide +kernel) rfl, gq 77 (by decide +kernel) rfl, gq 486 (by decide +kernel) rfl⟩
theorem mwX8_64 : Cond.methodLink RX8 64 Lib.Math.min.name ∈ lwg ∧ Cond.static Lib.Math.min.name ∈ lwg ∧ Cond.initialized "java/lang/Math" ∈ lwg ∧ Cond.code Lib.Math.min.name Lib.Math.min.code 2 (some .int) ∈ lwg := ⟨mlX8_64, gq 485 (by decide +kernel) rfl, gq 77 (by decide +kernel) rfl, gq 486 (by decide +kernel) rfl⟩
theorem mwX9_415 : Cond.methodLink RX9 415 Lib.Math.abs.name ∈ lwg ∧ Cond.static Lib.Math.abs.name ∈ lwg ∧ Cond.initialized "java/lang/Math" ∈ lwg ∧ Cond.code Lib.Math.abs.name Lib.Math.abs.code 1 (some .int) ∈ lwg := ⟨mlX9_415, gq 684 (by decide +kernel) rfl, gq 77 (by decide +kernel) rfl, gq 685 (by decide +kernel) rfl⟩
theorem mwX6_16 : Cond.methodLink RX6 16 Lib.Math.abs.name ∈ lwg ∧ Cond.static Lib.Math.abs.name ∈ lwg ∧ Cond.initialized "java/lang/Math" ∈ lwg ∧ Cond.code Lib.Math.abs.name Lib.Math.abs.code 1 (some .int) ∈ lwg := ⟨mlX6_16, gq 684 (by decide +kernel) rfl, gq 77 (by decide +kernel) rfl, gq 685 (by decide +kernel) rfl⟩
theorem wac_n : Cond.native arraycopyName ∈ lwg := gq 103 (by decide +kernel) rfl
theorem wac_s : Cond.static arraycopyName ∈ lwg := gq 102 (by decide +kernel) rfl
theorem wac_i : Cond.initialized "java/lang/System" ∈ lwg := gq 63 (by decide +kernel) rfl
