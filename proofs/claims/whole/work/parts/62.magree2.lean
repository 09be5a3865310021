/-! The model's readTerm and agree. -/
section MAGREE2
variable {G : GG} {l : Launch} {d : Nat} {post : Option AVal → AS → Prop} {σ : AS} {kk nn : Nat}
def rkT (n : Nat) (b : Nat → Int32) (t i : Nat) : Out := if tmK n b i = -1 then (1, tS n b i) else if t = 8 then (2, tS n b i) else rt n b i
theorem rt_pg {n i : Nat} {b : Nat → Int32} (h : ¬ tmK n b i = -1) : rt n b i = pg n b (tmo n b (tE n b i) (tmK n b i)) 59 := by
  unfold rt pg
  rw [if_neg h]
def APT (σ σ' : AS) (n : Nat) (b : Nat → Int32) (i A t : Nat) (o : Out) : Prop := MZ False PT QT σ σ' ∧ KT σ σ' A (8 * A + t) ∧ RS σ' n b o ∧ (o.1 = 0 → gA σ' 26 23 A = nI (t + 1) ∧ gA σ' 26 24 (8 * A + t) = tmK n b i ∧ gA σ' 26 25 (8 * A + t) = tmM n b (tE n b i) (tmK n b i) ∧ gA σ' 26 26 (8 * A + t) = tmN n b (tE n b i) (tmK n b i) ∧ gA σ' 21 3 (8 * A + t) = tmU n b (tE n b i) (tmK n b i))
theorem tm_kd : ∀ k, k ≤ 3 → ¬ nI k = -1 := by decide +kernel
theorem m_readTerm {j n i A t : Nat} {b : Nat → Int32} (hA : A < 30) (ht : t ≤ 8) (hS : St σ) (hB : MB σ j n b) (hi : i ≤ n) (hT : MTok σ n b i) (h24 : gI σ 13 24 0 = 0) (h49 : gI σ 13 49 0 = nI A) (h23 : gA σ 26 23 A = nI t) (h : ∀ σ', APT σ σ' n b i A t (rkT n b t i) → post none σ') : AMet G l M_X12_readTerm (d + 6) 0 0 [xR (some (13, 0))] σ post := by
  have hle := tE_le (b := b) hi
  have pb : ¬ PT 19 ∧ ¬ QT 22 j := ⟨fun q => by have := q.1; omega, fun q => by rcases q with q | q <;> omega⟩
  have tail : ∀ kd, kd ≤ 3 → tmK n b i = nI kd → t < 8 → ∀ (σ5 : AS) (o : Out), MZ False PT QT σ σ5 → KT σ σ5 A (8 * A + t) → gA σ5 26 23 A = nI t → gA σ5 26 24 (8 * A + t) = nI kd → gA σ5 26 25 (8 * A + t) = (if kd = 0 then 0 else (p1 n b (tE n b i)).2) → (kd = 0 → gA σ5 21 3 (8 * A + t) = 0) → RS σ5 n b o → o = (if kd = 0 then (0, tE n b i) else pw n b (p1 n b (tE n b i)).1 17) → AW G l M_X12_readTerm (d + 6) post σ5 0 0 157 [some (xR (some (13, 0))), some (xI (nI kd)), some (xI (nI (8 * A + t)))] [] := by
    have ep : pn n b (pw n b (p1 n b (tE n b i)).1 17) 0 99999 = p2 n b (tE n b i) := by unfold p2; rfl
    intro kd hkd hK ht8 σ5 o Z5 K5 a23 a24 a25 a3 R5 eo
    have hne : ¬ nI kd = -1 := tm_kd kd hkd
    have e1 : rkT n b t i = pg n b (tmo n b (tE n b i) (nI kd)) 59 := by unfold rkT; rw [hK, if_neg hne, if_neg (by omega), rt_pg (by rw [hK]; exact hne), hK]
    rw [e1] at h
    refine m_term157 (k := 8 * A + t) (A := A) (by omega) hA hkd (Z5.st hS) (Z5.mb pb.1 pb.2 hB) R5 (fun σ6 Z6 K6 c23 co c26 u0 u1 R6 => ?_)
    have Z := Z5.tr Z6
    have eo6 : (if kd = 0 then (pn n b o 0 99999).1 else tl n b (pn n b o 0 99999).1) = tmo n b (tE n b i) (nI kd) := by
      by_cases e : kd = 0
      · rw [if_pos e]
        rw [if_pos e] at eo
        subst e
        rw [eo]
        exact tmo_0.1.symm
      · rw [if_neg e]
        rw [if_neg e] at eo
        rw [eo, ep]
        exact (tmo_k (nI_ne0 (by omega) (by omega))).1.symm
    rw [eo6] at R6
    refine m_term226 (d := d) (A := A) hA (Z.st hS) (Z.mb pb.1 pb.2 hB) R6 ((Z.2.2.2.2.1 49 0 (fun q => by have := q.2; omega)).trans h49) (fun σ7 M7 R7 => h _ ⟨(Z.tr M7.zt).setA (by decide) (Or.inl ⟨rfl, by decide, by decide⟩), ((K5.tr K6).tr (KT.mq M7)).tr KT.s23, R7.keep (fun _ _ _ => rfl), fun z => ?_⟩)
    have zo : (tmo n b (tE n b i) (nI kd)).1 = 0 := by
      by_cases c : (tmo n b (tE n b i) (nI kd)).1 = 0
      · exact c
      · unfold pg at z; rw [if_neg c] at z; exact absurd z c
    rw [hK]
    have v23 : gA σ7 26 23 A = nI t := by rw [M7.a26, c23]; exact a23
    have v24 : gA σ7 26 24 (8 * A + t) = nI kd := by rw [M7.a26, co 24 (by decide)]; exact a24
    have v25 : gA σ7 26 25 (8 * A + t) = (if kd = 0 then 0 else (p1 n b (tE n b i)).2) := by rw [M7.a26, co 25 (by decide)]; exact a25
    have v26 : gA σ7 26 26 (8 * A + t) = (pn n b o 0 99999).2 := by rw [M7.a26]; exact c26
    refine ⟨by rw [gA_self, v23, nI_1], (gA_o (by omega)).trans v24, (gA_o (by omega)).trans ?_, (gA_o (by omega)).trans ?_, (gA_o (by omega)).trans ?_⟩
    · rw [v25]
      by_cases e : kd = 0
      · subst e; rw [if_pos rfl]; rfl
      · rw [if_neg e]
        have q := (tmo_k (n := n) (b := b) (j := tE n b i) (nI_ne0 (show 0 < kd by omega) (by omega)))
        rw [q.1] at zo
        have z2 : (p2 n b (tE n b i)).1.1 = 0 := by
          by_cases c : (p2 n b (tE n b i)).1.1 = 0
          · exact c
          · unfold tl at zo; rw [if_neg c] at zo; exact absurd zo c
        exact (q.2 z2).1.symm
    · rw [v26]
      by_cases e : kd = 0
      · rw [if_pos e] at eo
        subst e
        rw [eo]
        rw [show nI 0 = 0 from rfl, tmo_0.1] at zo
        exact (tmo_0.2 zo).2.1.symm
      · rw [if_neg e] at eo
        rw [eo, ep]
        have q := (tmo_k (n := n) (b := b) (j := tE n b i) (nI_ne0 (show 0 < kd by omega) (by omega)))
        rw [q.1] at zo
        have z2 : (p2 n b (tE n b i)).1.1 = 0 := by
          by_cases c : (p2 n b (tE n b i)).1.1 = 0
          · exact c
          · unfold tl at zo; rw [if_neg c] at zo; exact absurd zo c
        exact (q.2 z2).2.1.symm
    · by_cases e : kd = 0
      · rw [M7.a21, u0 e, a3 e]
        subst e
        rw [show nI 0 = 0 from rfl, tmo_0.1] at zo
        exact (tmo_0.2 zo).2.2.symm
      · have q := (tmo_k (n := n) (b := b) (j := tE n b i) (nI_ne0 (show 0 < kd by omega) (by omega)))
        rw [q.1] at zo
        have z2 : (p2 n b (tE n b i)).1.1 = 0 := by
          by_cases c : (p2 n b (tE n b i)).1.1 = 0
          · exact c
          · unfold tl at zo; rw [if_neg c] at zo; exact absurd zo c
        rw [if_neg e] at eo
        have u := u1 e (by rw [eo, ep]; exact z2)
        rw [M7.a21, u, (q.2 z2).2.2, eo, ep]
  have vA : vp_in (nI A) 30 := vp_in_nI hA (by decide)
  have h8 : ¬ nI t = 8 → t < 8 := fun c => by
    rcases Nat.lt_or_ge t 8 with q | q
    · exact q
    · have e : t = 8 := by omega
      subst e; exact absurd rfl c
  have h8' : nI t = 8 → t = 8 := fun c => (nI_eq (b := 8) (by omega) (by decide)).mp c
  have two : ∀ kd, kd ≤ 3 → tmK n b i = nI kd → t = 8 → post none (MFl σ 2) := by
    intro kd hkd hK e8
    have e1 : rkT n b t i = (2, tS n b i) := by unfold rkT; rw [hK, if_neg (tm_kd kd hkd), if_pos e8]
    rw [e1] at h
    exact h _ ⟨MX.fl.zt, KT.mq MX.fl, RS.fl i2n0 hT, fun q => absurd q i2n0⟩
  have three : ∀ kd, kd ≤ 3 → (∀ σ3, MN σ σ3 → MZ False PT QT σ (sA (sA (sA σ3 26 24 (8 * A + t) (nI kd)) 26 25 (8 * A + t) 0) 21 3 (8 * A + t) (vp_nar .boolean 0)) ∧ KT σ (sA (sA (sA σ3 26 24 (8 * A + t) (nI kd)) 26 25 (8 * A + t) 0) 21 3 (8 * A + t) (vp_nar .boolean 0)) A (8 * A + t)) := fun kd _ σ3 M3 => ⟨((M3.mq.zt.setA (by decide) (Or.inl ⟨rfl, by decide, by decide⟩)).setA (by decide) (Or.inl ⟨rfl, by decide, by decide⟩)).setA (by decide) (Or.inr ⟨rfl, rfl⟩), (((KT.mq M3.mq).tr (KT.s26 (by decide))).tr (KT.s26 (by decide))).tr KT.s21⟩
  have nar0 : vp_nar .boolean 0 = 0 := by decide +kernel
  have num : ∀ kd, kd ≤ 3 → kd ≠ 0 → tmK n b i = nI kd → t < 8 → ∀ σ3, MN σ σ3 → MTok σ3 n b (tE n b i) → AMet G l M_X12_number (d + 5) 0 0 [xR (some (13, 0)), xI 0, xI 99999] (sA (sA (sA σ3 26 24 (8 * A + t) (nI kd)) 26 25 (8 * A + t) 0) 21 3 (8 * A + t) (vp_nar .boolean 0)) (retI (fun x12 σ11 => St σ11 ∧ vp_in (nI (8 * A + t)) 240 ∧ AMet G l M_X12_wants_ (d + 5) 0 0 [xR (some (13, 0)), xR (some (30, 17))] (sA σ11 26 25 (8 * A + t) x12) (retV (fun σ13 => AW G l M_X12_readTerm (d + 6) post σ13 0 0 157 [some (xR (some (13, 0))), some (xI (nI kd)), some (xI (nI (8 * A + t)))] [])))) := by
    intro kd hkd hk0 hK ht8 σ3 M3 T3
    obtain ⟨Z4, K4⟩ := three kd hkd σ3 M3
    have T4 : MTok (sA (sA (sA σ3 26 24 (8 * A + t) (nI kd)) 26 25 (8 * A + t) 0) 21 3 (8 * A + t) (vp_nar .boolean 0)) n b (tE n b i) := T3.keep (fun _ _ _ => rfl)
    refine z_number (d := d + 3) (o := (0, tE n b i)) (by decide) (Z4.mb pb.1 pb.2 hB) (Or.inl ⟨rfl, T4, hle.2, (M3.2.2.2.2 24 0 (by omega)).trans h24⟩) (fun σ5 M5 R5 => ⟨(Z4.tr M5.zt).st hS, vp_in_nI (by omega) (by decide), ?_⟩)
    have Z6 := (Z4.tr M5.zt).setA (c := 26) (a := 25) (i := 8 * A + t) (v := (pn n b (0, tE n b i) 0 99999).2) (by decide) (Or.inl ⟨rfl, by decide, by decide⟩)
    have R6 : RS (sA σ5 26 25 (8 * A + t) (pn n b (0, tE n b i) 0 99999).2) n b (p1 n b (tE n b i)).1 := R5.keep (fun _ _ _ => rfl)
    refine z_wantsW (d := d) (Z6.mb pb.1 pb.2 hB) R6 (fun σ7 M7 R7 => tail kd hkd hK ht8 σ7 _ (Z6.tr M7.zt) (((K4.tr (KT.mq M5)).tr (KT.s26 (by decide))).tr (KT.mq M7)) ?_ ?_ ?_ (fun q => absurd q hk0) R7 (by rw [if_neg hk0]))
    · rw [M7.a26, gA_o (by omega), M5.a26, gA_o (by omega), gA_o (by omega), gA_o (by omega), M3.mq.a26]; exact h23
    · rw [M7.a26, gA_o (by omega), M5.a26, gA_o (by omega), gA_o (by omega), gA_self]
    · rw [M7.a26, gA_self, if_neg hk0]; rfl
  have N : ∀ {x : Bool}, bI x = 0 → ¬ x = true := fun h e => bI_ne.mpr e h
  have vk : t < 8 → vp_in (nI (8 * A + t)) 240 := fun q => vp_in_nI (by omega) (by decide)
  refine AMet.of rfl (Nat.le_of_ble_eq_true rfl) (vc_X12_readTerm (d := d + 5) (m_isWord (d := d + 1) hB hi hT ⟨hS, fun c13 => m_isWord (d := d + 1) hB hi hT ⟨hS, fun c14 => m_isWord (d := d + 1) hB hi hT ⟨hS, fun c15 => m_isWord (d := d + 1) hB hi hT ⟨hS, fun c16 => ?_, fun c16 => ?_⟩, fun c15 => ?_⟩, fun c14 => ?_⟩, fun c13 => ?_⟩))
  · have e : tmK n b i = -1 := by unfold tmK; rw [if_neg (N c13), if_neg (N c14), if_neg (N c15), if_neg (N c16)]
    have e1 : rkT n b t i = (1, tS n b i) := by unfold rkT; rw [if_pos e]
    rw [e1] at h
    exact m_fails h24 (h _ ⟨MX.fl.zt, KT.mq MX.fl, RS.fl i1n0 hT, fun q => absurd q i1n0⟩)
  · have e : tmK n b i = nI 3 := by unfold tmK; rw [if_neg (N c13), if_neg (N c14), if_neg (N c15), if_pos (bI_ne.mp c16)]; rfl
    rw [h49, nI_clamp (by omega), h23, nI_8]
    exact ⟨vA, fun c8 => ⟨vA, m_next (d := d + 4) hB hle.2 hT.2.1 (fun σ3 M3 T3 => ⟨M3.st hS, vk (h8 c8), vk (h8 c8), vk (h8 c8), by rw [nI_clamp (by omega)]; exact num 3 (by decide) (by decide) e (h8 c8) σ3 M3 T3⟩)⟩, fun c8 => m_fails h24 (two 3 (by decide) e (h8' c8))⟩
  · have e : tmK n b i = nI 2 := by unfold tmK; rw [if_neg (N c13), if_neg (N c14), if_pos (bI_ne.mp c15)]; rfl
    rw [h49, nI_clamp (by omega), h23, nI_8]
    exact ⟨vA, fun c8 => ⟨vA, m_next (d := d + 4) hB hle.2 hT.2.1 (fun σ3 M3 T3 => ⟨M3.st hS, vk (h8 c8), vk (h8 c8), vk (h8 c8), by rw [nI_clamp (by omega)]; exact num 2 (by decide) (by decide) e (h8 c8) σ3 M3 T3⟩)⟩, fun c8 => m_fails h24 (two 2 (by decide) e (h8' c8))⟩
  · have e : tmK n b i = nI 1 := by unfold tmK; rw [if_neg (N c13), if_pos (bI_ne.mp c14)]; rfl
    rw [h49, nI_clamp (by omega), h23, nI_8]
    exact ⟨vA, fun c8 => ⟨vA, m_next (d := d + 4) hB hle.2 hT.2.1 (fun σ3 M3 T3 => ⟨M3.st hS, vk (h8 c8), vk (h8 c8), vk (h8 c8), by rw [nI_clamp (by omega)]; exact num 1 (by decide) (by decide) e (h8 c8) σ3 M3 T3⟩)⟩, fun c8 => m_fails h24 (two 1 (by decide) e (h8' c8))⟩
  · have e : tmK n b i = nI 0 := by unfold tmK; rw [if_pos (bI_ne.mp c13)]; rfl
    rw [h49, nI_clamp (by omega), h23, nI_8]
    refine ⟨vA, fun c8 => ⟨vA, m_next (d := d + 4) hB hle.2 hT.2.1 (fun σ3 M3 T3 => ⟨M3.st hS, vk (h8 c8), vk (h8 c8), vk (h8 c8), ?_⟩)⟩, fun c8 => m_fails h24 (two 0 (by decide) e (h8' c8))⟩
    rw [nI_clamp (by have := h8 c8; omega)]
    obtain ⟨Z4, K4⟩ := three 0 (by decide) σ3 M3
    refine tail 0 (by decide) e (h8 c8) _ (0, tE n b i) Z4 K4 ?_ ?_ ?_ (fun _ => ?_) (Or.inl ⟨rfl, T3.keep (fun _ _ _ => rfl), hle.2, (M3.2.2.2.2 24 0 (by omega)).trans h24⟩) rfl
    · rw [gA_o (by omega), gA_o (by omega), gA_o (by omega), M3.mq.a26]; exact h23
    · rw [gA_o (by omega), gA_o (by omega), gA_self]; rfl
    · rw [gA_o (by omega), gA_self]; rfl
    · rw [gA_self]; exact nar0
end MAGREE2
