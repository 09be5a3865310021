/-! The model's tokens: next, isWord, is, wants, number. -/
section MTOK2
variable {G : GG} {l : Launch} {d : Nat} {post : Option AVal → AS → Prop} {σ : AS} {kk nn : Nat}
theorem rnn_all {n : Nat} {b : Nat → Int32} {K : Int32} : ∀ (f p : Nat), n - p = f → p ≤ n → ∀ j, p ≤ j → j < rnn n b K f p → tk n b j = K
  | 0, p, _, _, j, h1, h2 => by rw [rnn] at h2; omega
  | f + 1, p, hf, hp, j, h1, h2 => by
    rw [rnn] at h2
    by_cases c : ¬ K = 4 ∧ tk n b p = K
    · rw [if_pos c] at h2
      by_cases e : j = p
      · rw [e]; exact c.2
      · exact rnn_all f (p + 1) (by omega) (by omega) j (by omega) h2
    · rw [if_neg c] at h2; omega
theorem a_mnext {j n i : Nat} {b : Nat → Int32} (h : ∀ σ', MN σ σ' → MTok σ' n b i → post none σ') : ∀ (f p : Nat) (σ1 : AS), MB σ1 j n b → n - p = f → p ≤ n → i ≤ n → skp n b f p = tS n b i → gI σ1 13 20 0 = nI p → MN σ σ1 → AW G l M_X12_next (d + 1) post σ1 kk nn 0 [some (xR (some (13, 0))), none] [] := by
  have at52 : ∀ (σ1 : AS) (s : Nat), MB σ1 j n b → s ≤ n → i ≤ n → s = tS n b i → gI σ1 13 20 0 = nI s → MN σ σ1 → (s < n → ¬ tk n b s = 1) → AW G l M_X12_next (d + 1) post σ1 kk nn 52 [some (xR (some (13, 0))), none] [] := by
    intro σ1 s B hs hi hS e M hb1
    have hn := B.2.2.1
    refine vc_X12_next_52 (d := d) ⟨fun c => ?_, fun c => ?_⟩
    · rw [e, B.2.1] at c
      have hlt : s < n := (nI_ltI (by omega) (by omega)).mp c
      obtain ⟨m, hm, em⟩ := B.2.2.2.2.2 s hlt
      have eb : gA σ1 22 j s = sgb (nI m) := by rw [B.2.2.2.2.1 s hlt, em]
      have tks : tk n b s = kd (nI m) := by rw [tk_lt hlt, em]
      have tKs : tK n b i = kd (nI m) := by unfold tK; rw [← hS]; exact tks
      have ra : rAt n b (tS n b i) = nI m := by unfold rAt; rw [← hS, if_pos hlt]; exact em
      refine ⟨j, B.1, ?_, ?_⟩
      · rw [e]; show vp_in (nI s) (gN σ1 22 j); rw [B.2.2.2.1]; exact vp_in_nI (by omega) (by decide)
      rw [e, nI_clamp (by omega), nI_1, gA_sI, eb]
      have F1 : MN σ1 (sI (sI σ1 13 21 0 (nI s)) 13 20 0 (nI (s + 1))) := (MN.set (by decide) (by decide)).tr (MN.set (by decide) (by decide))
      have g21 : gI (sI (sI σ1 13 21 0 (nI s)) 13 20 0 (nI (s + 1))) 13 21 0 = nI s := by rw [gI_o (by decide), gI_self]
      have g20 : gI (sI (sI σ1 13 21 0 (nI s)) 13 20 0 (nI (s + 1))) 13 20 0 = nI (s + 1) := gI_self
      generalize sI (sI σ1 13 21 0 (nI s)) 13 20 0 (nI (s + 1)) = σ2 at *
      have B2 := F1.mb B
      have M2 := M.tr F1
      have run1 : ∀ K, ¬ K = 4 → kd (nI m) = K → tE n b i = rnn n b K (n - (s + 1)) (s + 1) := fun K hK hk => by
        unfold tE
        rw [tKs, hk, if_neg hK, ← hS, show n - s = (n - (s + 1)) + 1 by omega, rnn, if_pos ⟨hK, by rw [tks, hk]⟩]
      refine m_isSmall (fun z => ⟨fun _ => m_isDigit (fun z2 => ⟨fun _ => ?_, fun q => absurd rfl q⟩) (fun z2 => ⟨fun q => absurd q (by decide), fun _ => ?_⟩), fun q => absurd rfl q⟩) (fun z => ⟨fun q => absurd q (by decide), fun _ => ?_⟩)
      · have k4 : kd (nI m) = 4 := by
          have a2 : ¬ kd (nI m) = 2 := fun q => z ((sg_word m hm).mpr q)
          have a3 : ¬ kd (nI m) = 3 := fun q => z2 ((sg_num m hm).mpr q)
          have a1 : ¬ kd (nI m) = 1 := by rw [← tks]; exact hb1 hlt
          rcases kd_range m hm with q | q | q | q
          · exact absurd q a1
          · exact absurd q a2
          · exact absurd q a3
          · exact q
        have eE : tE n b i = s + 1 := by unfold tE; rw [tKs, k4, if_pos rfl, ← hS]
        have nN' : ¬ isN n b i := fun q => by unfold isN at q; rw [tKs, k4] at q; exact absurd q.1 (by decide)
        have mSe : mS n b i = if nI m = 40 ∨ nI m = 41 ∨ nI m = 58 ∨ nI m = 59 ∨ nI m = 60 ∨ nI m = 62 then 4 else 1 := by
          unfold mS
          rw [tKs, k4, if_neg (by decide), if_neg (by decide), if_neg (by decide), ra]
        have fin : ∀ x, (x = 40 ∨ x = 41 ∨ x = 58 ∨ x = 59 ∨ x = 60 ∨ x = 62) → sgb (nI m) = nI x → post none (sI (sI σ2 13 23 0 (sgb (nI m))) 13 22 0 4) := fun x hx ex => by
          have em' := (sg_eq m hm x hx).mp ex
          have m4 : mS n b i = 4 := by
            rw [mSe]
            refine if_pos ?_
            rw [em']
            rcases hx with rfl | rfl | rfl | rfl | rfl | rfl
            · exact Or.inl rfl
            · exact Or.inr (Or.inl rfl)
            · exact Or.inr (Or.inr (Or.inl rfl))
            · exact Or.inr (Or.inr (Or.inr (Or.inl rfl)))
            · exact Or.inr (Or.inr (Or.inr (Or.inr (Or.inl rfl))))
            · exact Or.inr (Or.inr (Or.inr (Or.inr (Or.inr rfl))))
          refine h _ (M2.tr ((MN.set (by decide) (by decide)).tr (MN.set (by decide) (by decide)))) ⟨by rw [gI_o (by decide), gI_o (by decide), g21, hS], by rw [gI_o (by decide), gI_o (by decide), g20, eE], by rw [gI_self, m4], fun q => absurd q nN', fun _ => by rw [gI_o (by decide), gI_self, ra, ex, em']⟩
        refine ⟨fun q => fin 40 (by decide) q, fun q1 => ⟨fun q => fin 41 (by decide) q, fun q2 => ⟨fun q => fin 58 (by decide) q, fun q3 => ⟨fun q => fin 59 (by decide) q, fun q4 => ⟨fun q => fin 60 (by decide) q, fun q5 => ⟨fun q6 => ?_, fun q => fin 62 (by decide) q⟩⟩⟩⟩⟩⟩
        have m1 : mS n b i = 1 := by
          rw [mSe]
          refine if_neg (fun q => ?_)
          rcases q with q | q | q | q | q | q
          · exact q1 ((sg_eq m hm 40 (by decide)).mpr q)
          · exact q2 ((sg_eq m hm 41 (by decide)).mpr q)
          · exact q3 ((sg_eq m hm 58 (by decide)).mpr q)
          · exact q4 ((sg_eq m hm 59 (by decide)).mpr q)
          · exact q5 ((sg_eq m hm 60 (by decide)).mpr q)
          · exact q6 ((sg_eq m hm 62 (by decide)).mpr q)
        exact h _ (M2.tr ((MN.set (by decide) (by decide)).tr (MN.set (by decide) (by decide)))) ⟨by rw [gI_o (by decide), gI_o (by decide), g21, hS], by rw [gI_o (by decide), gI_o (by decide), g20, eE], by rw [gI_self, m1], fun q => absurd q nN', fun q => by rw [m1] at q; exact absurd q (by decide)⟩
      · have k3 := (sg_num m hm).mp z2
        have sm := sg_same m hm (Or.inr k3)
        rw [sm]
        have F3 : MN σ2 (sI σ2 13 23 0 (nI m - 48)) := MN.set (by decide) (by decide)
        have hE := run1 3 (by decide) k3
        have hV : tV n b i = dig n b 3 (n - (s + 1)) (s + 1) (nI m - 48) := by
          unfold tV
          rw [tKs, k3, if_neg (by decide), ← hS, show n - s = (n - (s + 1)) + 1 by omega, dig, if_pos ⟨by decide, by rw [tks, k3]⟩]
          have : rAt n b s = nI m := by rw [hS]; exact ra
          rw [this, Int32.zero_mul, Int32.zero_add]
        have hr := rnn_le (n := n) (b := b) (K := 3) (n - (s + 1)) (s + 1) rfl (by omega)
        refine m_nums (s := s) (n - (s + 1)) (s + 1) (nI m - 48) _ (F3.mb B2) rfl (by omega) (by omega) (by rw [gI_o (by decide)]; exact g21) (by rw [gI_o (by decide)]; exact g20) (fun _ => gI_self) (fun σ' M' x1 x2 x3 x4 => h σ' ((M2.tr F3).tr M') ⟨by rw [x2, hS], by rw [x1, hE], ?_, fun q => ?_, fun q => ?_⟩)
        · have q : mS n b i = if tE n b i - tS n b i ≤ 5 then 2 else 1 := by
            unfold mS
            rw [tKs, k3, if_neg (by decide), if_neg (by decide), if_pos rfl]
          rw [x3, q, hE, ← hS]
        · rw [x4 (by have := q.2; rw [hE, ← hS] at this; exact this), hV]
        · exfalso
          unfold mS at q
          rw [tKs, k3, if_neg (by decide), if_neg (by decide), if_pos rfl] at q
          split at q <;> exact absurd q (by decide)
      · have k2 := (sg_word m hm).mp z
        have hE := run1 2 (by decide) k2
        refine m_words (s := s) (n - (s + 1)) (s + 1) _ B2 rfl (by omega) g20 (fun σ' M' x1 x2 x3 => h σ' (M2.tr M') ⟨by rw [x2, g21, hS], by rw [x1, hE], ?_, fun q => ?_, fun q => ?_⟩)
        · rw [x3]; unfold mS; rw [tKs, k2, if_neg (by decide), if_pos rfl]
        · unfold isN at q; rw [tKs, k2] at q; exact absurd q.1 (by decide)
        · unfold mS at q; rw [tKs, k2, if_neg (by decide), if_pos rfl] at q; exact absurd q (by decide)
    · rw [e, B.2.1] at c
      have hsn : s = n := by
        have : ¬ s < n := fun q => c (nI_lt q (by omega))
        omega
      have k0 : tK n b i = 0 := by unfold tK; rw [← hS, hsn]; exact tk_end
      have eE : tE n b i = n := by
        unfold tE
        rw [k0, if_neg (by decide), ← hS, hsn, Nat.sub_self]; rfl
      rw [e]
      refine h _ (M.tr ((MN.set (by decide) (by decide)).tr (MN.set (by decide) (by decide)))) ⟨by rw [gI_o (by decide), gI_self, hS], by rw [gI_o (by decide), gI_o (by decide), e, eE, hsn], by rw [gI_self]; unfold mS; rw [k0, if_pos rfl], fun q => ?_, fun q => ?_⟩
      · unfold isN at q; rw [k0] at q; exact absurd q.1 (by decide)
      · unfold mS at q; rw [k0, if_pos rfl] at q; exact absurd q (by decide)
  intro f
  induction f with
  | zero =>
    intro p σ1 B hf hp hi hS e M
    have hn := B.2.2.1
    have hpn : p = n := by omega
    refine vc_X12_next (d := d) ⟨fun _ => at52 σ1 p B hp hi hS e M (fun q => by omega), fun c => ?_⟩
    rw [e, B.2.1] at c
    exact absurd (nI_le (show n ≤ p by omega) (by omega)) c
  | succ f ih =>
    intro p σ1 B hf hp hi hS e M
    have hn := B.2.2.1
    have hlt : p < n := by omega
    obtain ⟨m, hm, em⟩ := B.2.2.2.2.2 p hlt
    have eb : gA σ1 22 j p = sgb (nI m) := by rw [B.2.2.2.2.1 p hlt, em]
    have tks : tk n b p = kd (nI m) := by rw [tk_lt hlt, em]
    have k := sg_blank m hm
    have vi : vp_in (nI p) (gN σ1 22 j) := by rw [B.2.2.2.1]; exact vp_in_nI (by omega) (by decide)
    have skip : kd (nI m) = 1 → AW G l M_X12_next (d + 1) post (sI σ1 13 20 0 (nI (p + 1))) kk nn 0 [some (xR (some (13, 0))), none] [] := fun q => by
      refine ih (p + 1) _ ((MN.set (by decide) (by decide)).mb B) (by omega) (by omega) hi ?_ gI_self (M.tr (MN.set (by decide) (by decide)))
      rw [skp, if_pos (by rw [tks, q])] at hS
      exact hS
    have stop : ¬ kd (nI m) = 1 → AW G l M_X12_next (d + 1) post σ1 kk nn 52 [some (xR (some (13, 0))), none] [] := fun q => by
      rw [skp, if_neg (by rw [tks]; exact q)] at hS
      exact at52 σ1 p B hp hi hS e M (fun _ => by rw [tks]; exact q)
    refine vc_X12_next (d := d) ⟨fun c => ?_, fun _ => ⟨j, B.1, ?_, fun c => ?_, fun c => ⟨?_, fun c2 => ?_, fun c2 => ?_⟩⟩⟩
    · rw [e, B.2.1] at c
      exact absurd ((nI_leI (by omega) (by omega)).mp c) (by omega)
    · rw [e]; exact vi
    · rw [e, nI_clamp (by omega), eb] at c
      rw [e, nI_1]
      exact skip (k.mp (Or.inl c))
    · rw [e]; exact vi
    · rw [e, nI_clamp (by omega), eb] at c c2
      exact stop (fun q => (k.mpr q).elim c c2)
    · rw [e, nI_clamp (by omega), eb] at c2
      rw [e, nI_1]
      exact skip (k.mp (Or.inr c2))
theorem m_next {j n i : Nat} {b : Nat → Int32} (hB : MB σ j n b) (hi : i ≤ n) (e : gI σ 13 20 0 = nI i) (h : ∀ σ', MN σ σ' → MTok σ' n b i → post none σ') : AMet G l M_X12_next (d + 1) 0 0 [xR (some (13, 0))] σ post :=
  AMet.of rfl (Nat.le_of_ble_eq_true rfl) (a_mnext h (n - i) i σ hB rfl hi hi rfl e MN.rf)
end MTOK2
