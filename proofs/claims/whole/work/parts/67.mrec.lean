/-! The model's records and pays. -/
section MREC
variable {G : GG} {l : Launch} {d : Nat} {post : Option AVal → AS → Prop} {σ : AS} {kk nn : Nat} {N D : Nat}
theorem nI_40 (y p : Nat) : 40 * nI y + nI p = nI (40 * y + p) := by
  have : (40 : Int32) = nI 40 := rfl
  rw [this, nI_mul, nI_add]
theorem m_isRecord {x y : Int32} (hS : St σ) (hN : N ≤ 40) (hD : D ≤ 60) (h1' : gI σ 13 1 0 = nI N) (h2 : gI σ 13 2 0 = nI D)
    (h0 : ¬ (∃ p q, p < N ∧ q < D ∧ x = nI p ∧ y = nI q ∧ gA σ 26 27 (40 * q + p) ≠ -1) → post (some (xI 0)) σ)
    (h1 : ∀ p q, p < N → q < D → x = nI p → y = nI q → gA σ 26 27 (40 * q + p) ≠ -1 → post (some (xI 1)) σ) : AMet G l M_X12_isRecord (d + 1) 0 0 [xR (some (13, 0)), xI x, xI y] σ post := by
  refine AMet.of rfl (Nat.le_of_ble_eq_true rfl) (vc_X12_isRecord (d := d) (m_isPerson hN h1' (fun z => ⟨hS, fun _ => h0 ?_, fun q => absurd rfl q⟩) (fun p hp e => ⟨hS, fun q => absurd q (by decide), fun _ => ⟨fun c => h0 ?_, fun c => ⟨fun c2 => h0 ?_, fun c2 => ?_⟩⟩⟩)))
  · rintro ⟨p, q, hp, hq, e, -⟩; exact z ⟨p, hp, e⟩
  · rintro ⟨p', q, hp', hq, e', ey, -⟩; subst ey; exact absurd c (nI_pos (by omega))
  · rintro ⟨p', q, hp', hq, e', ey, -⟩
    subst ey
    rw [h2] at c2
    exact absurd ((nI_leI (by omega) (by omega)).mp c2) (by omega)
  · obtain ⟨q, hq, eq⟩ := nI_of c
    rw [h2, eq] at c2
    have hqD : q < D := by
      rcases Nat.lt_or_ge q D with w | w
      · exact w
      · exact absurd (nI_le w hq) c2
    rw [e, eq, nI_40, nI_clamp (by omega)]
    refine ⟨vp_in_nI (by omega) (by decide), fun c3 => h0 ?_, fun c3 => h1 p q hp hqD e eq c3⟩
    rintro ⟨p', q', hp', hq', e', ey, ne⟩
    have a1 := (nI_eq (by omega) (by omega)).mp (e.symm.trans e')
    have a2 := (nI_eq (by omega) (by omega)).mp (eq.symm.trans ey)
    subst a1; subst a2
    exact ne c3
/-- what row k of the model is worth, and its agreement's number -/
def WoM (σ : AS) (k : Nat) (num pay : Int32) : Prop := gA σ 26 32 k = num ∧ ((num = -1 ∧ pay = 0) ∨ ∃ g K, num = nI g ∧ AgM σ g K ∧ pay = sumM σ g (gA σ 26 28 k) (gA σ 26 31 k) K)
theorem m_worthR {k : Nat} {num pay : Int32} (hS : St σ) (hW : WoM σ k num pay) (h : post (some (xI pay)) σ) : AMet G l M_X12_worth (d + 1) 0 0 [xR (some (13, 0)), xI (gA σ 26 32 k), xI (gA σ 26 28 k), xI (gA σ 26 31 k)] σ post := by
  obtain ⟨e, ⟨e1, e2⟩ | ⟨g, K, e1, hA, e2⟩⟩ := hW
  · rw [e, e1]
    rw [e2] at h
    exact m_worth0 hS h
  · rw [e, e1]
    rw [e2] at h
    exact m_worth hS hA h
theorem WoM.t0 {k : Nat} {num pay : Int32} (h : WoM σ k num pay) : WoM (T0 σ) k num pay := by
  obtain ⟨e, ⟨e1, e2⟩ | ⟨g, K, e1, hA, e2⟩⟩ := h
  · exact ⟨e, Or.inl ⟨e1, e2⟩⟩
  · refine ⟨e, Or.inr ⟨g, K, e1, hA, e2.trans ?_⟩⟩
    have : ∀ K, sumM (T0 σ) g (gA (T0 σ) 26 28 k) (gA (T0 σ) 26 31 k) K = sumM σ g (gA σ 26 28 k) (gA σ 26 31 k) K := by
      intro K
      induction K with
      | zero => rfl
      | succ K ih => rw [sumM, sumM, ih]; rfl
    exact (this K).symm
theorem m_record {x y a : Int32} (hS : St σ) (hN : N ≤ 40) (hD : D ≤ 60) (h1' : gI σ 13 1 0 = nI N) (h2 : gI σ 13 2 0 = nI D)
    (h0 : ¬ (∃ p q, p < N ∧ q < D ∧ x = nI p ∧ y = nI q ∧ gA σ 26 27 (40 * q + p) ≠ -1) → post (some (xI (-1))) (T0 σ))
    (h1 : ∀ p q, p < N → q < D → x = nI p → y = nI q → gA σ 26 27 (40 * q + p) ≠ -1 → ∃ num pay, WoM σ (40 * q + p) num pay ∧ post (some (xI (ansT (fun f => gA σ 26 (24 + f) (40 * q + p)) num pay a))) (T0 σ)) : AMet G l M_X12_record (d + 2) 0 0 [xR (some (13, 0)), xI x, xI y, xI a] σ post := by
  refine AMet.of rfl (Nat.le_of_ble_eq_true rfl) (vc_X12_record (d := d + 1) (m_isRecord (d := d) hN hD ((T0_f (by decide)).trans h1') ((T0_f (by decide)).trans h2) (hS := hS) (fun z => ⟨hS, fun q => absurd rfl q, fun _ => h0 z⟩) (fun p q hp hq ex ey ne => ⟨hS, fun _ => ?_, fun q => absurd q (by decide)⟩)))
  obtain ⟨num, pay, hW, h⟩ := h1 p q hp hq ex ey ne
  rw [ex, ey, nI_40, nI_clamp (by omega)]
  have vk : vp_in (nI (40 * q + p)) 2400 := vp_in_nI (by omega) (by decide)
  refine ⟨fun c => ⟨vk, ?_⟩, fun c => ⟨vk, ?_⟩, fun c => ⟨vk, ?_⟩, fun c => ⟨vk, ?_⟩, fun c => ⟨vk, ?_⟩, fun c => ⟨vk, ?_⟩, fun c => ⟨vk, vk, vk, ?_⟩, fun c => ?_⟩
  · subst c; exact h
  · subst c; exact h
  · subst c; exact h
  · subst c; exact h
  · subst c; exact h
  · subst c
    rw [show ansT (fun f => gA σ 26 (24 + f) (40 * q + p)) num pay 5 = num from rfl, ← hW.1] at h
    exact h
  · subst c
    exact m_worthR (σ := T0 σ) hS hW.t0 h
  · have n : ∀ k : Int32, (0 ≤ k.toInt ∧ k.toInt ≤ 6) → ¬ a = k := fun k hk e => by subst e; omega
    rw [ansT, if_neg (n 0 (by decide)), if_neg (n 1 (by decide)), if_neg (n 2 (by decide)), if_neg (n 3 (by decide)), if_neg (n 4 (by decide)), if_neg (n 5 (by decide)), if_neg (n 6 (by decide))] at h
    exact h
/-- the sum over days -/
def sumD (has : Nat → Bool) (pay : Nat → Int32) (lo hi : Int32) : Nat → Int64
  | 0 => 0
  | q + 1 => if ¬ nI q < lo ∧ ¬ hi < nI q ∧ has q = true then sumD has pay lo hi q + (pay q).toInt64 else sumD has pay lo hi q
theorem m_pay {x lo hi : Int32} {has : Nat → Bool} {pay : Nat → Int32} (hS : St σ) (hN : N ≤ 40) (hD : D ≤ 60) (h1' : gI σ 13 1 0 = nI N) (h2 : gI σ 13 2 0 = nI D)
    (h0 : (¬ ∃ p, p < N ∧ x = nI p) → ∀ q, q < D → has q = false)
    (hp : ∀ p, p < N → x = nI p → ∀ q, q < D → (has q = true ↔ gA σ 26 27 (40 * q + p) ≠ -1) ∧ (has q = true → ∃ num, WoM σ (40 * q + p) num (pay q)))
    (h : post (some (xL (sumD has pay lo hi D))) (T0 σ)) : AMet G l M_X12_pay (d + 2) 0 0 [xR (some (13, 0)), xI x, xI lo, xI hi] σ post := by
  have e2 : gI (T0 σ) 13 2 0 = nI D := (T0_f (by decide)).trans h2
  have e1 : gI (T0 σ) 13 1 0 = nI N := (T0_f (by decide)).trans h1'
  have loop : ∀ (f q : Nat), D - q = f → q ≤ D → AW G l M_X12_pay (d + 2) post (T0 σ) 0 0 11 [some (xR (some (13, 0))), some (xI x), some (xI lo), some (xI hi), some (xL (sumD has pay lo hi q)), none, some (xI (nI q))] [] := by
    intro f
    induction f with
    | zero =>
      intro q hf hq
      have e : q = D := by omega
      subst e
      exact vc_X12_pay_11 (d := d + 1) ⟨fun _ => h, fun c => absurd (by rw [e2]; exact nI_le (Nat.le_refl _) (by omega)) c⟩
    | succ f ih =>
      intro q hf hq
      have hqD : q < D := by omega
      have z := ih (q + 1) (by omega) (by omega)
      rw [sumD] at z
      refine vc_X12_pay_11 (d := d + 1) ⟨fun c => absurd ((nI_leI (a := D) (b := q) (by omega) (by omega)).mp (by rw [e2] at c; exact c)) (by omega), fun _ => ⟨fun c => ?_, fun c => ⟨fun c2 => ?_, fun c2 => ?_⟩⟩⟩
      · rw [if_neg (fun w => w.1 c)] at z; rw [nI_1]; exact z
      · rw [if_neg (fun w => w.2.1 c2)] at z; rw [nI_1]; exact z
      · refine m_isRecord (d := d) (show St (T0 σ) from hS) hN hD e1 e2 (fun no => ⟨hS, fun _ => ?_, fun w => absurd rfl w⟩) (fun p q' hp' hq' ex ey ne => ⟨hS, fun w => absurd w (by decide), fun _ => ?_⟩)
        · have hf' : has q = false := by
            by_cases w : ∃ p, p < N ∧ x = nI p
            · obtain ⟨p, hp', ex⟩ := w
              have k := (hp p hp' ex q hqD).1
              cases w2 : has q
              · rfl
              · exact absurd ⟨p, q, hp', hqD, ex, rfl, k.mp w2⟩ no
            · exact h0 w q hqD
          rw [if_neg (fun w => by rw [hf'] at w; exact absurd w.2.2 (by decide))] at z
          rw [nI_1]; exact z
        · have eqq : q = q' := (nI_eq (by omega) (by omega)).mp ey
          subst eqq
          have k := hp p hp' ex q hqD
          have ht := k.1.mpr ne
          obtain ⟨num, hW⟩ := k.2 ht
          rw [if_pos ⟨c, c2, ht⟩] at z
          have vk : vp_in (nI (40 * q + p)) 2400 := vp_in_nI (by omega) (by decide)
          rw [ex] at z
          rw [ex, nI_40, nI_clamp (by omega)]
          refine ⟨vk, vk, vk, m_worthR (σ := T0 σ) hS hW.t0 ?_⟩
          dsimp only [retI]
          rw [nI_1]
          exact z
  refine AMet.of rfl (Nat.le_of_ble_eq_true rfl) (vc_X12_pay (d := d + 1) ?_)
  have z := loop D 0 rfl (Nat.zero_le _)
  rw [show sumD has pay lo hi 0 = 0 from rfl, nI_0] at z
  exact z
end MREC
