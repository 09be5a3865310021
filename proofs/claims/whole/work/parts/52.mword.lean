/-! The model's tokens: words, signs, numbers. -/
section MWORD
variable {G : GG} {l : Launch} {d : Nat} {post : Option AVal → AS → Prop} {σ : AS} {kk nn : Nat}
theorem mS_3 {n i : Nat} {b : Nat → Int32} : mS n b i = 3 ↔ tK n b i = 2 := by
  unfold mS
  by_cases c0 : tK n b i = 0
  · rw [if_pos c0, c0]; decide
  · rw [if_neg c0]
    by_cases c2 : tK n b i = 2
    · rw [if_pos c2]; exact ⟨fun _ => c2, fun _ => rfl⟩
    · rw [if_neg c2]
      refine ⟨fun q => ?_, fun q => absurd q c2⟩
      exfalso
      split at q
      · split at q <;> exact absurd q (by decide)
      · split at q <;> exact absurd q (by decide)
theorem mS_2 {n i : Nat} {b : Nat → Int32} : mS n b i = 2 ↔ isN n b i := by
  unfold mS isN
  by_cases c0 : tK n b i = 0
  · rw [if_pos c0, c0]; exact ⟨fun q => absurd q (by decide), fun q => absurd q.1 (by decide)⟩
  · rw [if_neg c0]
    by_cases c2 : tK n b i = 2
    · rw [if_pos c2, c2]; exact ⟨fun q => absurd q (by decide), fun q => absurd q.1 (by decide)⟩
    · rw [if_neg c2]
      by_cases c3 : tK n b i = 3
      · rw [if_pos c3]
        by_cases c5 : tE n b i - tS n b i ≤ 5
        · rw [if_pos c5]; exact ⟨fun _ => ⟨c3, c5⟩, fun _ => rfl⟩
        · rw [if_neg c5]; exact ⟨fun q => absurd q (by decide), fun q => absurd q.2 c5⟩
      · rw [if_neg c3]
        refine ⟨fun q => ?_, fun q => absurd q.1 c3⟩
        exfalso
        split at q <;> exact absurd q (by decide)
theorem mS_0 {n i : Nat} {b : Nat → Int32} : mS n b i = 0 ↔ tK n b i = 0 := by
  unfold mS
  by_cases c0 : tK n b i = 0
  · rw [if_pos c0]; exact ⟨fun _ => c0, fun _ => rfl⟩
  · rw [if_neg c0]
    refine ⟨fun q => ?_, fun q => absurd q c0⟩
    exfalso
    split at q
    · exact absurd q (by decide)
    · split at q
      · split at q <;> exact absurd q (by decide)
      · split at q <;> exact absurd q (by decide)
theorem tk_kinds {n : Nat} {b : Nat → Int32} (hb : ∀ i, i < n → ∃ m, m < 256 ∧ b i = nI m) (p : Nat) : tk n b p = 0 ∨ tk n b p = 1 ∨ tk n b p = 2 ∨ tk n b p = 3 ∨ tk n b p = 4 := by
  by_cases h : p < n
  · obtain ⟨m, hm, em⟩ := hb p h
    rw [tk_lt h, em]
    exact Or.inr (kd_range m hm)
  · exact Or.inl (tk_ge h)
theorem skp_not1 {n : Nat} {b : Nat → Int32} : ∀ (f p : Nat), n - p = f → p ≤ n → ¬ tk n b (skp n b f p) = 1
  | 0, p, hf, hp => by
    rw [skp, tk_ge (by omega)]; decide
  | f + 1, p, hf, hp => by
    rw [skp]
    by_cases c : tk n b p = 1
    · rw [if_pos c]; exact skp_not1 f (p + 1) (by omega) (by omega)
    · rw [if_neg c]; exact c
theorem tK_not1 {n i : Nat} {b : Nat → Int32} (hi : i ≤ n) : ¬ tK n b i = 1 := skp_not1 (n - i) i rfl hi
theorem mS_4 {n i : Nat} {b : Nat → Int32} {x : Nat} (hb : ∀ i, i < n → ∃ m, m < 256 ∧ b i = nI m) (hi : i ≤ n) (hx : x = 40 ∨ x = 41 ∨ x = 58 ∨ x = 59 ∨ x = 60 ∨ x = 62) : (mS n b i = 4 ∧ rAt n b (tS n b i) = nI x) ↔ isG n b i (nI x) = true := by
  have six : nI x = 40 ∨ nI x = 41 ∨ nI x = 58 ∨ nI x = 59 ∨ nI x = 60 ∨ nI x = 62 := by
    rcases hx with rfl | rfl | rfl | rfl | rfl | rfl
    · exact Or.inl rfl
    · exact Or.inr (Or.inl rfl)
    · exact Or.inr (Or.inr (Or.inl rfl))
    · exact Or.inr (Or.inr (Or.inr (Or.inl rfl)))
    · exact Or.inr (Or.inr (Or.inr (Or.inr (Or.inl rfl))))
    · exact Or.inr (Or.inr (Or.inr (Or.inr (Or.inr rfl))))
  unfold isG
  by_cases c4 : tK n b i = 4
  · rw [if_pos c4]
    by_cases e : rAt n b (tS n b i) = nI x
    · rw [if_pos e]
      refine ⟨fun _ => rfl, fun _ => ⟨?_, e⟩⟩
      unfold mS
      rw [c4, if_neg (by decide), if_neg (by decide), if_neg (by decide), e, if_pos six]
    · rw [if_neg e]
      exact ⟨fun q => absurd q.2 e, fun q => (by cases q)⟩
  · rw [if_neg c4]
    refine ⟨fun q => ?_, fun q => (by cases q)⟩
    exfalso
    have k := tk_kinds hb (tS n b i)
    have q1 := q.1
    unfold mS at q1
    rcases k with k | k | k | k | k
    · rw [if_pos (show tK n b i = 0 from k)] at q1; exact absurd q1 (by decide)
    · exact tK_not1 hi k
    · rw [show tK n b i = 2 from k, if_neg (by decide), if_pos rfl] at q1; exact absurd q1 (by decide)
    · rw [show tK n b i = 3 from k, if_neg (by decide), if_neg (by decide), if_pos rfl] at q1
      split at q1 <;> exact absurd q1 (by decide)
    · exact c4 k
theorem m_isWord {j n i w : Nat} {b : Nat → Int32} (hB : MB σ j n b) (hi : i ≤ n) (hT : MTok σ n b i) (h : post (some (xI (bI (isW n b i w)))) σ) : AMet G l M_X12_isWord (d + 4) 0 0 [xR (some (13, 0)), xR (some (30, w))] σ post := by
  have hn := hB.2.2.1
  have hN := jsN_lt w
  have hle := tE_le (b := b) hi
  have hs := tS_le (b := b) hi
  obtain ⟨t1, t2, t3, t4, t5⟩ := hT
  refine AMet.of rfl (Nat.le_of_ble_eq_true rfl) (vc_X12_isWord (d := d + 3) ⟨fun c => ?_, fun c => c_sLen ⟨fun c2 => ?_, fun c2 => ?_⟩⟩)
  · rw [t3] at c
    rw [isW, if_neg (fun q => c (mS_3.mpr q))] at h
    exact h
  · rw [t3] at c
    have k2 := mS_3.mp c
    rw [t1, t2, nI_subl hle.1 (by omega), nI_eq (by omega) (by omega)] at c2
    rw [isW, if_pos k2, if_pos c2] at h
    have loop : ∀ (f p : Nat), jsN w - p = f → p ≤ jsN w → post (some (xI (bI (wEq n b (tS n b i) w f p)))) σ → AW G l M_X12_isWord (d + 4) post σ 0 0 28 [some (xR (some (13, 0))), some (xR (some (30, w))), some (xI (nI p))] [] := by
      intro f
      induction f with
      | zero =>
        intro p hf hp h
        refine vc_X12_isWord_28 (d := d + 3) (c_sLen ⟨fun _ => h, fun c => absurd (nI_le (show jsN w ≤ p by omega) (by omega)) c⟩)
      | succ f ih =>
        intro p hf hp h
        have hlt : tS n b i + p < n := by omega
        have tk2 : tk n b (tS n b i + p) = 2 := by
          have eE : tE n b i = rnn n b 2 (n - tS n b i) (tS n b i) := by unfold tE; rw [k2, if_neg (by decide)]
          exact rnn_all (n - tS n b i) (tS n b i) rfl hs.2 _ (by omega) (by rw [← eE]; omega)
        obtain ⟨m, hm, em⟩ := hB.2.2.2.2.2 _ hlt
        have sm := sg_same m hm (Or.inl (by rw [tk_lt hlt, em] at tk2; exact tk2))
        refine vc_X12_isWord_28 (d := d + 3) (c_sLen ⟨fun c => absurd ((nI_leI (by omega) (by omega)).mp c) (by omega), fun _ => ⟨j, hB.1, ?_, c_charAt (by omega) ?_⟩⟩)
        · rw [t1, nI_add, hB.2.2.2.1]; exact vp_in_nI (by omega) (by decide)
        · dsimp only [retI]
          rw [t1, nI_add, nI_clamp (by omega), hB.2.2.2.2.1 _ hlt, em, sm]
          have ra : rAt n b (tS n b i + p) = nI m := by unfold rAt; rw [if_pos hlt]; exact em
          rw [wEq, ra] at h
          refine ⟨fun c => ?_, fun c => ?_⟩
          · rw [nI_1]
            rw [if_pos c] at h
            exact ih (p + 1) (by omega) (by omega) h
          · rw [if_neg c] at h
            exact h
    have k := loop (jsN w) 0 rfl (Nat.zero_le _) h
    rw [nI_0] at k
    exact k
  · rw [t3] at c
    have k2 := mS_3.mp c
    rw [t1, t2, nI_subl hle.1 (by omega), nI_eq (by omega) (by omega)] at c2
    rw [isW, if_pos k2, if_neg c2] at h
    exact h
theorem m_is {j n i x : Nat} {b : Nat → Int32} (hB : MB σ j n b) (hi : i ≤ n) (hT : MTok σ n b i) (hx : x = 40 ∨ x = 41 ∨ x = 58 ∨ x = 59 ∨ x = 60 ∨ x = 62) (h : post (some (xI (bI (isG n b i (nI x))))) σ) : AMet G l M_X12_is d 0 0 [xR (some (13, 0)), xI (nI x)] σ post := by
  obtain ⟨t1, t2, t3, t4, t5⟩ := hT
  have k := mS_4 (i := i) hB.2.2.2.2.2 hi hx
  have no : ¬ isG n b i (nI x) = true → post (some (xI 0)) σ := fun q => by
    have : isG n b i (nI x) = false := by
      cases z : isG n b i (nI x)
      · rfl
      · exact absurd z q
    rw [this] at h; exact h
  refine AMet.of rfl (Nat.le_of_ble_eq_true rfl) (vc_X12_is ⟨fun c => ?_, fun c => ⟨fun c2 => ?_, fun c2 => ?_⟩⟩)
  · rw [t3] at c
    exact no (fun q => c (k.mpr q).1)
  · rw [t3] at c
    rw [t5 c] at c2
    exact no (fun q => c2 (k.mpr q).2)
  · rw [t3] at c
    rw [t5 c] at c2
    rw [k.mp ⟨c, c2⟩] at h
    exact h
/-- the model's fault -/
def MFl (σ : AS) (k : Int32) : AS := sI (sI σ 13 24 0 k) 13 25 0 (gI σ 13 21 0)
theorem m_fails {k : Int32} (h0 : gI σ 13 24 0 = 0) (h : post none (MFl σ k)) : AMet G l M_X12_fails d 0 0 [xR (some (13, 0)), xI k] σ post :=
  AMet.of rfl (Nat.le_of_ble_eq_true rfl) (vc_X12_fails ⟨fun _ => h, fun c => absurd h0 c⟩)
theorem m_wants {j n i x : Nat} {b : Nat → Int32} (hB : MB σ j n b) (hi : i ≤ n) (hT : MTok σ n b i) (hx : x = 40 ∨ x = 41 ∨ x = 58 ∨ x = 59 ∨ x = 60 ∨ x = 62) (h0 : gI σ 13 24 0 = 0) (k0 : isG n b i (nI x) = false → post none (MFl σ 1)) (k1 : isG n b i (nI x) = true → ∀ σ', MN σ σ' → MTok σ' n b (tE n b i) → post none σ') : AMet G l M_X12_wants (d + 2) 0 0 [xR (some (13, 0)), xI (nI x)] σ post :=
  AMet.of rfl (Nat.le_of_ble_eq_true rfl) (vc_X12_wants (d := d + 1) ⟨fun _ => m_is hB hi hT hx ⟨fun c => m_fails h0 (k0 (bI_eq.mp c)), fun c => m_next hB (tE_le hi).2 hT.2.1 (k1 (bI_ne.mp c))⟩, fun c => absurd h0 c⟩)
theorem m_wantsS {x : Int32} (h0 : ¬ gI σ 13 24 0 = 0) (h : post none σ) : AMet G l M_X12_wants (d + 1) 0 0 [xR (some (13, 0)), xI x] σ post :=
  AMet.of rfl (Nat.le_of_ble_eq_true rfl) (vc_X12_wants (d := d) ⟨fun c => absurd c h0, fun _ => h⟩)
theorem m_wantsW {j n i w : Nat} {b : Nat → Int32} (hB : MB σ j n b) (hi : i ≤ n) (hT : MTok σ n b i) (h0 : gI σ 13 24 0 = 0) (k0 : isW n b i w = false → post none (MFl σ 1)) (k1 : isW n b i w = true → ∀ σ', MN σ σ' → MTok σ' n b (tE n b i) → post none σ') : AMet G l M_X12_wants_ (d + 5) 0 0 [xR (some (13, 0)), xR (some (30, w))] σ post :=
  AMet.of rfl (Nat.le_of_ble_eq_true rfl) (vc_X12_wants_ (d := d + 4) ⟨fun _ => m_isWord hB hi hT ⟨fun c => m_fails h0 (k0 (bI_eq.mp c)), fun c => m_next hB (tE_le hi).2 hT.2.1 (k1 (bI_ne.mp c))⟩, fun c => absurd h0 c⟩)
theorem m_wantsWS {w : Nat} (h0 : ¬ gI σ 13 24 0 = 0) (h : post none σ) : AMet G l M_X12_wants_ (d + 1) 0 0 [xR (some (13, 0)), xR (some (30, w))] σ post :=
  AMet.of rfl (Nat.le_of_ble_eq_true rfl) (vc_X12_wants_ (d := d) ⟨fun c => absurd c h0, fun _ => h⟩)
theorem m_within {x lo hi : Int32} (h0 : ¬ (¬ x < lo ∧ ¬ hi < x) → post (some (xI 0)) σ) (h1 : (¬ x < lo ∧ ¬ hi < x) → post (some (xI 1)) σ) : AMet G l M_X12_within d 0 0 [xI x, xI lo, xI hi] σ post :=
  AMet.of rfl (Nat.le_of_ble_eq_true rfl) (vc_X12_within ⟨fun c => h0 (fun z => z.1 c), fun c => ⟨fun c2 => h0 (fun z => z.2 c2), fun c2 => h1 ⟨c, c2⟩⟩⟩)
theorem m_number {j n i : Nat} {b : Nat → Int32} {lo hi : Int32} (hB : MB σ j n b) (hin : i ≤ n) (hT : MTok σ n b i) (h0 : gI σ 13 24 0 = 0)
    (k0 : ¬ (nN n b i lo hi).1.1 = 0 → (nN n b i lo hi).1.2 = tS n b i → post (some (xI 0)) (MFl σ (nN n b i lo hi).1.1))
    (k1 : (nN n b i lo hi).1.1 = 0 → ∀ σ', MN σ σ' → MTok σ' n b (nN n b i lo hi).1.2 → post (some (xI (nN n b i lo hi).2)) σ') : AMet G l M_X12_number (d + 2) 0 0 [xR (some (13, 0)), xI lo, xI hi] σ post := by
  have hle := tE_le (b := b) hin
  refine AMet.of rfl (Nat.le_of_ble_eq_true rfl) (vc_X12_number (d := d + 1) ⟨fun _ => ⟨fun c => ?_, fun c => ?_⟩, fun c => absurd h0 c⟩)
  · rw [hT.2.2.1] at c
    have hN := mS_2.mp c
    have hv := hT.2.2.2.1 hN
    rw [hv]
    unfold isN at hN
    refine m_within (fun z => ⟨fun q => absurd rfl q, fun _ => m_fails h0 ?_⟩) (fun z => ⟨fun _ => m_next hB hle.2 hT.2.1 (fun σ' M T => ?_), fun q => absurd q (by decide)⟩)
    · have e : nN n b i lo hi = ((2, tS n b i), -1) := by
        unfold nN
        rw [if_pos hN, if_pos (by
          by_cases a : tV n b i < lo
          · exact Or.inl a
          · by_cases a2 : hi < tV n b i
            · exact Or.inr a2
            · exact absurd ⟨a, a2⟩ z)]
      rw [e] at k0
      exact k0 i2n0 rfl
    · have e : nN n b i lo hi = ((0, tE n b i), tV n b i) := by
        unfold nN
        rw [if_pos hN, if_neg (fun q => q.elim z.1 z.2)]
      rw [e] at k1
      rw [hv]
      exact k1 rfl σ' M T
  · rw [hT.2.2.1] at c
    have hN : ¬ isN n b i := fun q => c (mS_2.mpr q)
    unfold isN at hN
    have e : nN n b i lo hi = ((1, tS n b i), -1) := by unfold nN; rw [if_neg hN]
    rw [e] at k0
    exact m_fails h0 (k0 i1n0 rfl)
theorem m_numberS {lo hi : Int32} (h0 : ¬ gI σ 13 24 0 = 0) (h : post (some (xI 0)) σ) : AMet G l M_X12_number (d + 1) 0 0 [xR (some (13, 0)), xI lo, xI hi] σ post :=
  AMet.of rfl (Nat.le_of_ble_eq_true rfl) (vc_X12_number (d := d) ⟨fun c => absurd c h0, fun _ => h⟩)
end MWORD
