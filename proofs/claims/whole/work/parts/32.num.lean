/-! ===== a film's length ===== -/
theorem RR.film {σ σ' τ τ' : gSt} (R : RR σ τ) (F' : FI σ' τ') (hσ : ∀ c, c < 1 ∨ 17 ≤ c → σ' c = σ c) (hτ : ∀ c, c ≠ 1 → τ' c = τ c) : RR σ' τ' := by
  obtain ⟨a, b, d, ⟨p, nx, H⟩, m, f⟩ := R
  exact ⟨F', b.frame (by rw [hσ 0 (by omega)]) (fun c h1 h2 => hσ c (by omega)) (by rw [hτ 0 (by omega)]) (hτ 2 (by omega)), d.frame (by rw [hσ 0 (by omega)]) (by rw [hσ 0 (by omega)]) (by rw [hσ 0 (by omega)]) (by rw [hτ 0 (by omega)]) (by rw [hτ 0 (by omega)]) (by rw [hτ 0 (by omega)]), ⟨p, nx, H.frame (hσ 25 (by omega)) (fun c h1 h2 => hσ c (by omega)) (by rw [hτ 0 (by omega)]) (hτ 4 (by omega))⟩, m, f.frame (hσ 187 (by omega)) (hσ 188 (by omega)) (by rw [hτ 0 (by omega)]) (hτ 6 (by omega))⟩
/-- a refusal, noted by both -/
theorem RR.ref {σ τ : gSt} (R : RR σ τ) (v κ : Int32) : ∃ σ' τ', f_X9_keepRefusal σ v 0 = some σ' ∧ f_X10_refuses τ κ v = some (0, τ') ∧ RR σ' τ' ∧ τ' 0 10 = κ := by
  refine ⟨up2 (up2 σ 0 10 v) 0 11 0, up2 (up2 (up2 τ 0 7 v) 0 8 0) 0 10 κ, ?_, ?_, ?_, up2_s ..⟩
  · unfold f_X9_keepRefusal; rw [gset_n, k1s, gset_n, k1s]
  · unfold f_X10_refuses f_X10_fails; rw [gset_n, k1s, gset_n, k1s, gset_n, k1s, k2s]
  · obtain ⟨a, b, d, ⟨p, nx, H⟩, m, f⟩ := R
    have s0 : ∀ j, j ≠ 10 → j ≠ 11 → up2 (up2 σ 0 10 v) 0 11 0 0 j = σ 0 j := fun j h1 h2 => by rw [up2_j h2, up2_j h1]
    have sc : ∀ c, c ≠ 0 → up2 (up2 σ 0 10 v) 0 11 0 c = σ c := fun c h => by rw [up2_k h, up2_k h]
    have t0 : ∀ j, j ≠ 7 → j ≠ 8 → j ≠ 10 → up2 (up2 (up2 τ 0 7 v) 0 8 0) 0 10 κ 0 j = τ 0 j := fun j h1 h2 h3 => by rw [up2_j h3, up2_j h2, up2_j h1]
    have tc : ∀ c, c ≠ 0 → up2 (up2 (up2 τ 0 7 v) 0 8 0) 0 10 κ c = τ c := fun c h => by rw [up2_k h, up2_k h, up2_k h]
    refine ⟨a.frame (fun c h1 h2 => sc c (by omega)) (tc 1 (by omega)), b.frame (s0 5 (by omega) (by omega)) (fun c h1 h2 => sc c (by omega)) (t0 3 (by omega) (by omega) (by omega)) (tc 2 (by omega)), ⟨?_, ?_, ?_, ?_⟩, ⟨p, nx, H.frame (sc 25 (by omega)) (fun c h1 h2 => sc c (by omega)) (t0 5 (by omega) (by omega) (by omega)) (tc 4 (by omega))⟩, m, f.frame (sc 187 (by omega)) (sc 188 (by omega)) (t0 12 (by omega) (by omega) (by omega)) (tc 6 (by omega))⟩
    · rw [up2_j (by omega), up2_s, up2_j (by omega), up2_j (by omega), up2_s]
    · rw [up2_s, up2_j (by omega), up2_s]
    · rw [s0 9 (by omega) (by omega), t0 9 (by omega) (by omega) (by omega)]; exact d.2.2.1
    · rw [t0 9 (by omega) (by omega) (by omega)]; exact d.2.2.2
theorem c_pass0 (σ : gSt) : f_X9_passOrRefuse σ 0 = some (0, σ) := rfl
theorem c_passv {σ σ' : gSt} {v : Int32} (hv : v ≠ 0) (e : f_X9_keepRefusal σ v 0 = some σ') : f_X9_passOrRefuse σ v = some (2, σ') := by
  unfold f_X9_passOrRefuse
  rw [if_neg hv, e, k1s]
def lenT (h : fH) (k : fK) (t : Nat) (a : Int32) : Prop := nT h t = 0 ∨ k t (nT h t - 1) 1 ≤ a
def lenC (h : fH) (a : Int32) : Prop := nC h = 0 ∨ hCut h (nC h - 1) < a
theorem c_endl {σ : gSt} {T n : Nat} {kp : Nat → Nat → Int32} (F : FT σ T n kp) {a : Int32} (ha : 0 ≤ a) : ∃ v, f_X8_end σ T (nI n - 1) = some v ∧ (v ≤ a ↔ (n = 0 ∨ kp (n - 1) 1 ≤ a)) := by
  rcases Nat.eq_zero_or_pos n with rfl | h0
  · refine ⟨0, ?_, by simp [ha]⟩
    unfold f_X8_end
    rw [c_has_f F.1 (Or.inl (by decide)), k1s, if_pos rfl, k1s]
  · refine ⟨kp (n - 1) 1, ?_, by simp [show n ≠ 0 by omega]⟩
    rw [nI_sub1 h0, c_end F (by omega)]
theorem c_lenRef {σ : gSt} {h : fH} {k : fK} (F : FR σ 1 h k) (I : Inv h k) {a : Int32} (ha : 100 ≤ a) : f_X3_lengthRefusal σ 1 a = some (b01 (¬ (lenT h k 0 a ∧ lenT h k 1 a ∧ lenC h a))) := by
  obtain ⟨n, hn⟩ : ∃ n, FU = n + 3 := ⟨FU - 3, by have := FU_ge; omega⟩
  have ha0 : 0 ≤ a := by grind
  obtain ⟨v0, e0, q0⟩ := c_endl (F.trk (t := 0) (by omega)) ha0
  obtain ⟨v1, e1, q1⟩ := c_endl (F.trk (t := 1) (by omega)) ha0
  have s0 : σ (tB 1 0) 5 = nI (nT h 0) := (F.trk (t := 0) (by omega)).1
  have s1 : σ (tB 1 1) 5 = nI (nT h 1) := (F.trk (t := 1) (by omega)).1
  have C := I.cutL
  have FCc := F.fc C
  unfold f_X3_lengthRefusal
  rw [hn, f_X3_lengthRefusal_l1, if_neg (by decide), show f_X3_trackOf σ 1 0 = some (tB 1 0) from rfl, k1s, s0, e0, k1s]
  by_cases h0 : v0 ≤ a
  · rw [if_pos h0, f_X3_lengthRefusal_l1, if_neg (by decide), show f_X3_trackOf σ 1 (0 + 1) = some (tB 1 1) from rfl, k1s, s1, e1, k1s]
    by_cases h1 : v1 ≤ a
    · rw [if_pos h1, f_X3_lengthRefusal_l1, if_pos (by decide)]
      have hlt : ∃ v, f_X0_at σ (1 + 2) (σ (1 + 2) 1 - 1) = some v ∧ (v < a ↔ lenC h a) := by
        rw [show σ (1 + 2) 1 = nI (nC h) from FCc.1]
        unfold lenC
        rcases Nat.eq_zero_or_pos (nC h) with hz | hz
        · refine ⟨-1, ?_, ?_⟩
          · rw [hz]; exact c_cutAt_out FCc (Or.inl (by decide))
          · simp [hz]; grind
        · refine ⟨hCut h (nC h - 1), ?_, ?_⟩
          · rw [nI_sub1 hz]; exact c_cutAt FCc (by omega)
          · simp [show nC h ≠ 0 by omega]
      obtain ⟨v, ev, qv⟩ := hlt
      rw [ev, k1s, k1i, k1s, k1s]
      by_cases h2 : v < a
      · rw [if_pos h2, b01_f (fun hh => hh ⟨q0.mp h0, q1.mp h1, qv.mp h2⟩)]
      · rw [if_neg h2, b01_t (fun hh => h2 (qv.mpr hh.2.2))]
    · rw [if_neg h1, b01_t (fun hh => h1 (q1.mpr hh.2.1))]
  · rw [if_neg h0, b01_t (fun hh => h0 (q0.mpr hh.1))]
theorem m_filmStep {σ : gSt} (I : Inv (σ 1) (gK (σ 1))) {t : Nat} (ht : t < 2) (a : Int32) (P : Prop) :
    (if b01 P = 0 then some (0 : Int32) else (g_k1 (gald σ 1 926 ((28 : Int32) + nI t)) fun v18 => (if v18 = 0 then some (1 : Int32) else (g_k1 (gald σ 1 926 ((28 : Int32) + nI t)) fun v20 => (g_k1 (f_X10_end σ (nI t) (v20 - (1 : Int32))) fun v21 => (if a < v21 then some (0 : Int32) else some (1 : Int32))))))) = some (b01 (P ∧ lenT (σ 1) (gK (σ 1)) t a)) := by
  have hn := I.n16 ht
  unfold lenT
  by_cases hP : P
  · rw [b01_t hP, if_neg (by decide), m_cnt ht, k1s, I.nT_eq ht]
    rcases Nat.eq_zero_or_pos (nT (σ 1) t) with hz | hz
    · rw [hz, if_pos (by decide), b01_t ⟨hP, Or.inl rfl⟩]
    · have hne : ¬ nI (nT (σ 1) t) = 0 := fun hh => by
        have := (nI_eq (a := nT (σ 1) t) (b := 0) (by omega) (by omega)).mp hh
        omega
      rw [if_neg hne, k1s, nI_sub1 hz, m_end ht (by omega), k1s]
      by_cases h1 : a < gK (σ 1) t (nT (σ 1) t - 1) 1
      · rw [if_pos h1, b01_f]
        rintro ⟨-, h2 | h2⟩
        · omega
        · grind
      · rw [if_neg h1, b01_t ⟨hP, Or.inr (Int32.not_lt.mp h1)⟩]
  · rw [b01_f hP, if_pos rfl, b01_f (fun hh => hP hh.1)]
theorem call_film {σ τ : gSt} (R : RR σ τ) (a : Int32) : ∃ x r σ' r' τ', f_X9_film σ a = some (x, r, σ') ∧ f_X10_film τ a = some (r', τ') ∧ CR [0, 1, 2] σ' τ' x r r' := by
  obtain ⟨n, hn⟩ : ∃ n, FU = n + 3 := ⟨FU - 3, by have := FU_ge; omega⟩
  by_cases h : 100 ≤ a ∧ a ≤ 9999
  · have I := R.1.2
    have F := R.1.1
    have C := I.cutL
    have hc20 := C.2.1
    have I0 : Inv (up2 τ 0 10 0 1) (gK (up2 τ 0 10 0 1)) := by rw [up2_k (by omega)]; exact I
    have t1 : up2 τ 0 10 0 1 = τ 1 := up2_k (by omega)
    have ec : f_X9_film σ a = (g_x2 (f_X9_passOrRefuse σ (b01 (¬ (lenT (τ 1) (gK (τ 1)) 0 a ∧ lenT (τ 1) (gK (τ 1)) 1 a ∧ lenC (τ 1) a)))) (fun x s => (x, (0 : Int32), s)) fun σ5 => (g_k1 (f_X4_keep σ5 1) fun σ6 => (g_k1 (gset σ6 1 0 a) fun σ7 => some (0, (σ6 1 0), σ7)))) := by
      unfold f_X9_film
      rw [if_neg (Int32.not_lt.mpr h.1), if_pos h.2, c_lenRef F I h.1, k1s]
    have ex7 : (if (up2 τ 0 10 0 1 7) = 0 then some (1 : Int32) else (g_k1 (gald (up2 τ 0 10 0) 1 926 (((8 : Int32) + (up2 τ 0 10 0 1 7)) - (1 : Int32))) fun v30 => (if a ≤ v30 then some (0 : Int32) else some (1 : Int32)))) = some (b01 (lenC (τ 1) a)) := by
      rw [t1, C.1]
      unfold lenC
      rcases Nat.eq_zero_or_pos (nC (τ 1)) with hz | hz
      · rw [hz, if_pos (by decide), b01_t (Or.inl rfl)]
      · have hne : ¬ nI (nC (τ 1)) = 0 := fun hh => by
          have := (nI_eq (a := nC (τ 1)) (b := 0) (by omega) (by omega)).mp hh
          omega
        rw [if_neg hne, show (8 : Int32) = nI 8 from rfl, nI_add, nI_sub1 (by omega), gald_n (by omega) (by omega), t1, k1s, show τ 1 (8 + nC (τ 1) - 1) = hCut (τ 1) (nC (τ 1) - 1) by unfold hCut; congr 1; omega]
        by_cases h1 : a ≤ hCut (τ 1) (nC (τ 1) - 1)
        · rw [if_pos h1, b01_f]
          rintro (h2 | h2)
          · omega
          · grind
        · rw [if_neg h1, b01_t (Or.inr (Int32.not_le.mp h1))]
    have el : f_X10_film_l1 a (up2 τ 0 10 0) FU 0 (b01 (lenC (τ 1) a)) = some (b01 ((lenC (τ 1) a ∧ lenT (τ 1) (gK (τ 1)) 0 a) ∧ lenT (τ 1) (gK (τ 1)) 1 a)) := by
      rw [hn, f_X10_film_l1, if_neg (by decide), show (28 : Int32) + 0 = 28 + nI 0 from rfl, show f_X10_end (up2 τ 0 10 0) 0 = f_X10_end (up2 τ 0 10 0) (nI 0) from rfl, m_filmStep I0 (t := 0) (by omega), k1s, f_X10_film_l1, if_neg (by decide), show (28 : Int32) + (0 + 1) = 28 + nI 1 from rfl, show f_X10_end (up2 τ 0 10 0) (0 + 1) = f_X10_end (up2 τ 0 10 0) (nI 1) from rfl, m_filmStep I0 (t := 1) (by omega), k1s, f_X10_film_l1, if_pos (by decide), t1]
    have em : f_X10_film τ a = (if b01 ((lenC (τ 1) a ∧ lenT (τ 1) (gK (τ 1)) 0 a) ∧ lenT (τ 1) (gK (τ 1)) 1 a) = 0 then (g_k2 (f_X10_refuses (up2 τ 0 10 0) (2 : Int32) (1 : Int32)) fun v27 σ28 => some (v27, σ28)) else (g_k1 (f_X10_changes (up2 τ 0 10 0) 1) fun σ25 => (g_k1 (gset σ25 1 0 a) fun σ26 => some ((σ25 1 0), σ26)))) := by
      unfold f_X10_film
      rw [m_in, k1s, b01_t h, if_neg (by decide), k1s, gset_n, k1s, up2_s, if_pos (by decide), ex7, k1s, el, k1s]
    by_cases hok : lenT (τ 1) (gK (τ 1)) 0 a ∧ lenT (τ 1) (gK (τ 1)) 1 a ∧ lenC (τ 1) a
    · obtain ⟨σ1, τ1, e1, e2, R1, fs, fs2, t0, tc⟩ := keepRR (R.thr 0)
      have F1 := R1.1
      have g1 : τ1 1 = τ 1 := by rw [tc 1 (by omega) (by omega), t1]
      have tn : ∀ i, i ≠ 0 → up2 τ1 1 0 a 1 i = τ1 1 i := fun i hi => up2_j hi
      have tz : up2 τ1 1 0 a 1 0 = a := up2_s ..
      have hC : nC (up2 τ1 1 0 a 1) = nC (τ1 1) := by unfold nC; rw [tn 7 (by omega)]
      have sorted : ∀ d i, i + d < nC (τ 1) → hCut (τ 1) i ≤ hCut (τ 1) (i + d) := by
        intro d
        induction d with
        | zero => intro i hi; exact Int32.le_refl _
        | succ d ih =>
          intro i hi
          have h1 := ih i (by omega)
          have h2 := I.2.1.2.2.2 (i + d) (by omega)
          unfold hCut at *
          rw [show 8 + (i + (d + 1)) = 8 + (i + d + 1) by omega]
          grind
      have ends : ∀ t, t < 2 → ∀ d i, i + d < nT (τ 1) t → gK (τ 1) t i 1 ≤ gK (τ 1) t (i + d) 1 := by
        intro t ht d
        induction d with
        | zero => intro i hi; exact Int32.le_refl _
        | succ d ih =>
          intro i hi
          have h1 := ih i (by omega)
          have h2 := (I.2.2 t ht).2.2.2 (i + d) (by omega)
          have h3 := (I.cap ht (c := i + d + 1) (by omega)).2.1
          rw [show i + (d + 1) = i + d + 1 by omega]
          grind
      have F' : FI (up2 σ1 1 0 a) (up2 τ1 1 0 a) := by
        refine ⟨FR.head F1.1 (fun i hi => tn i (by omega)) (fun c h1 h2 => up2_k (by omega)) ?_ ?_ ?_ ?_, Inv.head F1.2 (fun i hi => tn i (by omega)) ?_ ?_ ?_⟩
        · rw [up2_s, tz]
        · intro i hi
          rw [up2_k (by omega), tn _ (by omega)]; exact F1.1.2.1 i hi
        · rw [up2_k (by omega), tn 7 (by omega)]; exact F1.1.2.2.1
        · intro i hi
          rw [hC] at hi
          rw [up2_k (by omega), tn _ (by omega)]; exact F1.1.2.2.2.1 i hi
        · obtain ⟨s0, s1⟩ := F1.2.1
          unfold setOK
          rw [tz, tn 1 (by omega), tn 2 (by omega), tn 3 (by omega), tn 4 (by omega), tn 5 (by omega), tn 6 (by omega)]
          exact ⟨h, s1⟩
        · obtain ⟨s0, s1, s2, s3⟩ := F1.2.2.1
          refine ⟨by rw [hC, tn 7 (by omega)]; exact s0, by rw [hC]; exact s1, fun i hi => ?_, fun i hi => ?_⟩
          · rw [hC] at hi
            rw [tn _ (by omega), tz]
            refine ⟨(s2 i hi).1, ?_⟩
            rw [g1] at hi ⊢
            rcases hok.2.2 with hz | hz
            · omega
            · have := sorted (nC (τ 1) - 1 - i) i (by omega)
              rw [show i + (nC (τ 1) - 1 - i) = nC (τ 1) - 1 by omega] at this
              unfold hCut at *
              grind
          · rw [hC] at hi
            rw [tn _ (by omega), tn _ (by omega)]; exact s3 i hi
        · intro t ht c hc
          rw [tz]
          rw [g1] at hc ⊢
          have hl : lenT (τ 1) (gK (τ 1)) t a := by
            rcases (show t = 0 ∨ t = 1 by omega) with rfl | rfl
            · exact hok.1
            · exact hok.2.1
          rcases hl with hz | hz
          · omega
          · have := ends t ht (nT (τ 1) t - 1 - c) c (by omega)
            rw [show c + (nT (τ 1) t - 1 - c) = nT (τ 1) t - 1 by omega] at this
            grind
      have R2 := R1.film F' (fun c hc => up2_k (by omega)) (fun c hc => up2_k hc)
      refine ⟨0, σ1 1 0, up2 σ1 1 0 a, τ1 1 0, up2 τ1 1 0 a, ?_, ?_, R2, CO.z (L := [0, 1, 2]) (by rw [up2_k (by omega), t0 10 (by omega), up2_s]) (by decide), fun _ => F1.1.1⟩
      · rw [ec, b01_f (fun hh => hh hok), c_pass0]
        show g_k1 (f_X4_keep σ 1) _ = _
        rw [e1, k1s, gset_n, k1s]
      · rw [em, b01_t ⟨⟨hok.2.2, hok.1⟩, hok.2.1⟩, if_neg (by decide), e2, k1s, gset_n, k1s]
    · obtain ⟨σ1, τ1, e1, e2, R1, t10⟩ := (R.thr 0).ref 1 2
      refine ⟨2, 0, σ1, 0, τ1, ?_, ?_, R1, CO.t (L := [0, 1, 2]) t10 (by decide), fun h => by omega⟩
      · rw [ec, b01_t hok, c_passv (by decide) e1]; rfl
      · rw [em, b01_f (fun hh => hok ⟨hh.1.2, hh.2, hh.1.1⟩), if_pos rfl, e2, k2s]
  · refine ⟨1, 0, σ, 0, up2 τ 0 10 1, ?_, ?_, R.thr 1, CO.o (L := [0, 1, 2]) (up2_s ..) (by decide), fun h => by omega⟩
    · unfold f_X9_film
      by_cases h1 : a < 100
      · rw [if_pos h1]
      · rw [if_neg h1, if_neg (fun hh => h ⟨Int32.not_lt.mp h1, hh⟩)]
    · unfold f_X10_film
      rw [m_in, k1s, b01_f h, if_pos rfl, k1s, gset_n, k1s, up2_s, if_neg (by decide)]
