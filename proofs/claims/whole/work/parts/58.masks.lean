/-! The model reads asks. -/
section MASKS
variable {G : GG} {l : Launch} {d : Nat} {post : Option AVal → AS → Prop} {σ : AS} {kk nn : Nat}
def q0 (n : Nat) (b : Nat → Int32) (i : Nat) : Out × Int32 := pn n b (pw n b (0, i) 0) 0 19
def q1 (n : Nat) (b : Nat → Int32) (i : Nat) : Out × Int32 := pn n b (pw n b (q0 n b i).1 1) 0 1439
def q2 (n : Nat) (b : Nat → Int32) (i : Nat) : Out × Int32 := pn n b (pw n b (q1 n b i).1 2) 1 600
def q3 (n : Nat) (b : Nat → Int32) (i : Nat) : Out × Int32 := pn n b (pw n b (q2 n b i).1 3) 1 8
theorem q_bad {n w : Nat} {b : Nat → Int32} {o : Out} {lo hi : Int32} (h : ¬ o.1 = 0) : pn n b (pw n b o w) lo hi = (o, 0) := by rw [pw_bad h, pn_bad h]
theorem q_hd {n i : Nat} {b : Nat → Int32} : hd n b i = (if (q3 n b i).1.1 = 0 then (if isG n b (q3 n b i).1.2 58 = true then (0, tE n b (q3 n b i).1.2) else (1, tS n b (q3 n b i).1.2)) else (q3 n b i).1) ∧ ((q3 n b i).1.1 = 0 → (q0 n b i).2 = (h0 n b i).2 ∧ (q1 n b i).2 = (h1 n b i).2 ∧ (q2 n b i).2 = (h2 n b i).2 ∧ (q3 n b i).2 = (h3 n b i).2) := by
  have a0 : (q0 n b i).1 = (h0 n b i).1 ∧ ((h0 n b i).1.1 = 0 → (q0 n b i).2 = (h0 n b i).2) := wN_pn
  unfold hd
  by_cases c0 : (h0 n b i).1.1 = 0
  · have e0 : (q0 n b i).1 = (0, (h0 n b i).1.2) := by rw [a0.1]; exact o_eta c0
    have a1 : (q1 n b i).1 = (h1 n b i).1 ∧ ((h1 n b i).1.1 = 0 → (q1 n b i).2 = (h1 n b i).2) := by
      unfold q1; rw [e0]; exact wN_pn
    rw [if_pos c0]
    by_cases c1 : (h1 n b i).1.1 = 0
    · have e1 : (q1 n b i).1 = (0, (h1 n b i).1.2) := by rw [a1.1]; exact o_eta c1
      have a2 : (q2 n b i).1 = (h2 n b i).1 ∧ ((h2 n b i).1.1 = 0 → (q2 n b i).2 = (h2 n b i).2) := by
        unfold q2; rw [e1]; exact wN_pn
      rw [if_pos c1]
      by_cases c2 : (h2 n b i).1.1 = 0
      · have e2 : (q2 n b i).1 = (0, (h2 n b i).1.2) := by rw [a2.1]; exact o_eta c2
        have a3 : (q3 n b i).1 = (h3 n b i).1 ∧ ((h3 n b i).1.1 = 0 → (q3 n b i).2 = (h3 n b i).2) := by
          unfold q3; rw [e2]; exact wN_pn
        rw [if_pos c2, a3.1]
        exact ⟨rfl, fun z => ⟨a0.2 c0, a1.2 c1, a2.2 c2, a3.2 z⟩⟩
      · have e3 : q3 n b i = ((h2 n b i).1, 0) := by unfold q3; rw [a2.1]; exact q_bad c2
        rw [if_neg c2, e3, if_neg c2]
        exact ⟨rfl, fun z => absurd z c2⟩
    · have e2 : q2 n b i = ((h1 n b i).1, 0) := by unfold q2; rw [a1.1]; exact q_bad c1
      have e3 : q3 n b i = ((h1 n b i).1, 0) := by unfold q3; rw [e2]; exact q_bad c1
      rw [if_neg c1, e3, if_neg c1]
      exact ⟨rfl, fun z => absurd z c1⟩
  · have e1 : q1 n b i = ((h0 n b i).1, 0) := by unfold q1; rw [a0.1]; exact q_bad c0
    have e2 : q2 n b i = ((h0 n b i).1, 0) := by unfold q2; rw [e1]; exact q_bad c0
    have e3 : q3 n b i = ((h0 n b i).1, 0) := by unfold q3; rw [e2]; exact q_bad c0
    rw [if_neg c0, e3, if_neg c0]
    exact ⟨rfl, fun z => absurd z c0⟩
theorem ra_pg {n i : Nat} {b : Nat → Int32} : ra n b i = pg n b (pe n b (hd n b i)) 59 := by
  unfold ra pg pe
  by_cases c : (hd n b i).1 = 0
  · rw [if_pos c, if_pos c]
  · rw [if_neg c, if_neg c, if_neg c]
def rk (n : Nat) (b : Nat → Int32) (k i : Nat) : Out := if isW n b i 0 = true then (if k = 6 then (2, tS n b i) else ra n b i) else (1, tS n b i)
def PA : Nat → Prop := fun f => (20 ≤ f ∧ f ≤ 25) ∨ f = 37
def QA : Nat → Nat → Prop := fun c a => c = 26 ∧ 15 ≤ a ∧ a ≤ 19
/-- behind a reading of ask k from token i on -/
def AP (σ σ' : AS) (n : Nat) (b : Nat → Int32) (i k : Nat) (o : Out) : Prop := MZ False PA QA σ σ' ∧ (∀ a j, j ≠ k → gA σ' 26 a j = gA σ 26 a j) ∧ RS σ' n b o ∧ (o.1 = 0 → gI σ' 13 37 0 = nI (k + 1) ∧ gA σ' 26 15 k = (h0 n b i).2 ∧ gA σ' 26 16 k = (h1 n b i).2 ∧ gA σ' 26 17 k = (h2 n b i).2 ∧ gA σ' 26 18 k = (h3 n b i).2 ∧ gA σ' 26 19 k = nI (hd n b i).2)
theorem MX.za {σ1 : AS} (h : MX σ σ1) : MZ False PA QA σ σ1 := MZ.ofQ h (fun _ a c => Or.inl ⟨a, c⟩)
theorem MX.a26 {σ1 : AS} (h : MX σ σ1) (a j : Nat) : gA σ1 26 a j = gA σ 26 a j := (h.1 26 (by decide)).2.2.2.2.1 a j
theorem gA_o {c i j c' i' j' : Nat} {v : Int32} (h : ¬ (c = c' ∧ i = i' ∧ j = j')) : gA (sA σ c' i' j' v) c i j = gA σ c i j := by rw [gA_sA, if_neg h]
theorem m_readAsk {j n i k : Nat} {b : Nat → Int32} (hk : k ≤ 6) (hS : St σ) (hB : MB σ j n b) (hi : i ≤ n) (hT : MTok σ n b i) (h24 : gI σ 13 24 0 = 0) (h37 : gI σ 13 37 0 = nI k) (h27 : ¬ gI σ 13 27 0 = 0) (h : ∀ σ', AP σ σ' n b i k (rk n b k i) → post none σ') : AMet G l M_X12_readAsk (d + 32) 0 0 [xR (some (13, 0))] σ post := by
  have hle := tE_le (b := b) hi
  refine AMet.of rfl (Nat.le_of_ble_eq_true rfl) (vc_X12_readAsk (d := d + 31) (m_isWord (d := d + 27) hB hi hT ⟨fun c => ⟨fun ck => ?_, fun ck => ?_⟩, fun c => ?_⟩))
  · have cw := bI_ne.mp c
    rw [h37] at ck
    have hk6 : k < 6 := by
      rcases Nat.lt_or_ge k 6 with q | q
      · exact q
      · have e : k = 6 := by omega
        subst e; exact absurd rfl ck
    have e1 : rk n b k i = ra n b i := by unfold rk; rw [if_pos cw, if_neg (by omega)]
    rw [e1, ra_pg] at h
    obtain ⟨ehd, evs⟩ := q_hd (n := n) (b := b) (i := i)
    rw [h37, nI_clamp (by omega)]
    have vk : vp_in (nI k) 6 := vp_in_nI hk6 (by decide)
    have p1 : pw n b (0, i) 0 = (0, tE n b i) := by unfold pw; rw [if_pos rfl, if_pos cw]
    refine m_next hB hle.2 hT.2.1 (fun σ3 M3 T3 => ?_)
    have R3 : RS σ3 n b (pw n b (0, i) 0) := by rw [p1]; exact Or.inl ⟨rfl, T3, hle.2, (M3.2.2.2.2 24 0 (by omega)).trans h24⟩
    have Z3 : MZ False PA QA σ σ3 := M3.mq.za
    have pb : ¬ PA 19 ∧ ¬ QA 22 j := ⟨fun q => by rcases q with q | q <;> omega, fun q => absurd q.1 (by decide)⟩
    have qa : ∀ a, 15 ≤ a → a ≤ 19 → QA 26 a := fun a x y => ⟨rfl, x, y⟩
    have r27 : ∀ σ', MZ False PA QA σ σ' → ¬ gI σ' 13 27 0 = 0 := fun σ' Z => by rw [Z.2.2.2.2.1 27 0 (fun q => by rcases q with q | q <;> omega)]; exact h27
    refine ⟨Z3.st hS, z_number (d := d + 29) (by decide) (Z3.mb pb.1 pb.2 hB) R3 (fun σ4 M4 R4 => ?_)⟩
    have Z4 := Z3.tr M4.za
    have Z4' := Z4.setA (c := 26) (a := 15) (i := k) (v := (q0 n b i).2) (by decide) (qa 15 (by decide) (by decide))
    refine ⟨Z4.st hS, vk, z_wantsW (d := d + 26) (Z4'.mb pb.1 pb.2 hB) (R4.keep (fun _ _ _ => rfl)) (fun σ6 M6 R6 => ?_)⟩
    have Z6 := Z4'.tr M6.za
    refine ⟨Z6.st hS, z_number (d := d + 29) (by decide) (Z6.mb pb.1 pb.2 hB) R6 (fun σ7 M7 R7 => ?_)⟩
    have Z7 := Z6.tr M7.za
    have Z7' := Z7.setA (c := 26) (a := 16) (i := k) (v := (q1 n b i).2) (by decide) (qa 16 (by decide) (by decide))
    refine ⟨Z7.st hS, vk, z_wantsW (d := d + 26) (Z7'.mb pb.1 pb.2 hB) (R7.keep (fun _ _ _ => rfl)) (fun σ9 M9 R9 => ?_)⟩
    have Z9 := Z7'.tr M9.za
    refine ⟨Z9.st hS, z_number (d := d + 29) (by decide) (Z9.mb pb.1 pb.2 hB) R9 (fun σ10 M10 R10 => ?_)⟩
    have Z10 := Z9.tr M10.za
    have Z10' := Z10.setA (c := 26) (a := 17) (i := k) (v := (q2 n b i).2) (by decide) (qa 17 (by decide) (by decide))
    refine ⟨Z10.st hS, vk, z_wantsW (d := d + 26) (Z10'.mb pb.1 pb.2 hB) (R10.keep (fun _ _ _ => rfl)) (fun σ12 M12 R12 => ?_)⟩
    have Z12 := Z10'.tr M12.za
    refine ⟨Z12.st hS, z_number (d := d + 29) (by decide) (Z12.mb pb.1 pb.2 hB) R12 (fun σ13 M13 R13 => ?_)⟩
    have Z13 := Z12.tr M13.za
    have Z13' := Z13.setA (c := 26) (a := 18) (i := k) (v := (q3 n b i).2) (by decide) (qa 18 (by decide) (by decide))
    have R13' : RS (sA σ13 26 18 k (q3 n b i).2) n b (q3 n b i).1 := R13.keep (fun _ _ _ => rfl)
    have other : ∀ a i', i' ≠ k → gA (sA σ13 26 18 k (q3 n b i).2) 26 a i' = gA σ 26 a i' := fun a i' hne => by
      rw [gA_o (fun e => hne e.2.2), M13.a26, M12.a26, gA_o (fun e => hne e.2.2), M10.a26, M9.a26, gA_o (fun e => hne e.2.2), M7.a26, M6.a26, gA_o (fun e => hne e.2.2), M4.a26, M3.mq.a26]
    have v15 : gA (sA σ13 26 18 k (q3 n b i).2) 26 15 k = (q0 n b i).2 := by
      rw [gA_o (by omega), M13.a26, M12.a26, gA_o (by omega), M10.a26, M9.a26, gA_o (by omega), M7.a26, M6.a26, gA_self]; rfl
    have v16 : gA (sA σ13 26 18 k (q3 n b i).2) 26 16 k = (q1 n b i).2 := by
      rw [gA_o (by omega), M13.a26, M12.a26, gA_o (by omega), M10.a26, M9.a26, gA_self]; rfl
    have v17 : gA (sA σ13 26 18 k (q3 n b i).2) 26 17 k = (q2 n b i).2 := by
      rw [gA_o (by omega), M13.a26, M12.a26, gA_self]; rfl
    have v18 : gA (sA σ13 26 18 k (q3 n b i).2) 26 18 k = (q3 n b i).2 := gA_self
    refine ⟨Z13.st hS, vk, fun c13 => ⟨fun c => absurd c c13, fun _ => ?_⟩, fun c13 => ?_⟩
    · obtain ⟨z, f1, f2⟩ := R13'.no c13
      have eb : pg n b (pe n b (hd n b i)) 59 = (q3 n b i).1 := by
        rw [ehd, if_neg z]
        unfold pe; rw [if_neg z]
        unfold pg; rw [if_neg z]
      rw [eb] at h
      exact h _ ⟨Z13', other, R13', fun q => absurd q z⟩
    · obtain ⟨z, T13, hle13⟩ := R13'.ok c13
      obtain ⟨w0, w1, w2, w3⟩ := evs z
      rw [if_pos z] at ehd
      have hle14 := tE_le (b := b) hle13
      refine m_is (x := 58) (Z13'.mb pb.1 pb.2 hB) hle13 T13 (by decide) ⟨Z13'.st hS, fun c58 => ⟨fun _ => ⟨vk, ?_⟩, fun q => absurd c13 q⟩, fun c58 => m_fails c13 ⟨(MZ.ofQ MX.fl (fun _ a c => Or.inl ⟨a, c⟩) : MZ False PA QA _ _).st (Z13'.st hS), fun q => ?_, fun _ => ?_⟩⟩
      · have e58 : hd n b i = (0, tE n b (q3 n b i).1.2) := by rw [ehd, if_pos (show isG n b (q3 n b i).1.2 58 = true from bI_ne.mp c58)]
        rw [e58] at h
        have et : gI (sA σ13 26 18 k (q3 n b i).2) 13 20 0 = nI (tE n b (q3 n b i).1.2) := T13.2.1
        show AMet G l M_X12_next (d + 31) 0 0 _ (sA (sA σ13 26 18 k (q3 n b i).2) 26 19 k (gI (sA σ13 26 18 k (q3 n b i).2) 13 20 0)) _
        rw [et]
        have Z20 := Z13'.setA (c := 26) (a := 19) (i := k) (v := nI (tE n b (q3 n b i).1.2)) (by decide) (qa 19 (by decide) (by decide))
        refine m_next (Z20.mb pb.1 pb.2 hB) hle14.2 T13.2.1 (fun σ21 M21 T21 => ?_)
        have Z21 := Z20.tr M21.mq.za
        refine z_either (d := d) (o := (0, tE n b (q3 n b i).1.2)) (Z21.st hS) (Z21.mb pb.1 pb.2 hB) (Or.inl ⟨rfl, T21, hle14.2, (M21.2.2.2.2 24 0 (by omega)).trans c13⟩) rfl (r27 _ Z21) (fun σ22 V M22 R22 => ?_)
        have Z22 := Z21.tr M22.za
        refine z_wants (x := 59) (d := d + 29) (by decide) (Z22.mb pb.1 pb.2 hB) R22 (fun σ24 M24 R24 => ?_)
        have Z24 := Z22.tr M24.za
        have Z25 := Z24.set (f := 37) (i := 0) (v := gI σ24 13 37 0 + 1) (Or.inr rfl)
        have a24 : ∀ a i', gA σ24 26 a i' = gA (sA (sA σ13 26 18 k (q3 n b i).2) 26 19 k (nI (tE n b (q3 n b i).1.2))) 26 a i' := fun a i' => by rw [M24.a26, M22.a26, M21.mq.a26]
        have f37 : gI σ24 13 37 0 = nI k := by
          rw [M24.2.2.2.2 37 0 (by omega), M22.2.2.2.2 37 0 (by omega), M21.2.2.2.2 37 0 (by omega)]
          show gI σ13 13 37 0 = _
          rw [M13.2.2.2.2 37 0 (by omega), M12.2.2.2.2 37 0 (by omega)]
          show gI σ10 13 37 0 = _
          rw [M10.2.2.2.2 37 0 (by omega), M9.2.2.2.2 37 0 (by omega)]
          show gI σ7 13 37 0 = _
          rw [M7.2.2.2.2 37 0 (by omega), M6.2.2.2.2 37 0 (by omega)]
          show gI σ4 13 37 0 = _
          rw [M4.2.2.2.2 37 0 (by omega), M3.2.2.2.2 37 0 (by omega)]
          exact h37
        refine h _ ⟨Z25, fun a i' hne => ?_, R24.keep (fun f a c => gI_o (fun e => by omega)), fun _ => ⟨?_, ?_, ?_, ?_, ?_, ?_⟩⟩
        · exact (a24 a i').trans ((gA_o (fun e => hne e.2.2)).trans (other a i' hne))
        · rw [gI_self, f37, nI_1]
        · exact (a24 15 k).trans ((gA_o (by omega)).trans (v15.trans w0))
        · exact (a24 16 k).trans ((gA_o (by omega)).trans (v16.trans w1))
        · exact (a24 17 k).trans ((gA_o (by omega)).trans (v17.trans w2))
        · exact (a24 18 k).trans ((gA_o (by omega)).trans (v18.trans w3))
        · rw [e58]; exact (a24 19 k).trans gA_self
      · exfalso
        unfold MFl at q
        rw [gI_o (by decide), gI_self] at q
        exact i1n0 q
      · have e58 : hd n b i = (1, tS n b (q3 n b i).1.2) := by rw [ehd, if_neg (show ¬ isG n b (q3 n b i).1.2 58 = true from ng (bI_eq.mp c58))]
        have eb : pg n b (pe n b (hd n b i)) 59 = (1, tS n b (q3 n b i).1.2) := by
          rw [e58]
          unfold pe; rw [if_neg i1n0]
          unfold pg; rw [if_neg i1n0]
        rw [eb] at h
        exact h _ ⟨Z13'.tr MX.fl.za, fun a i' hne => (MX.fl.a26 a i').trans (other a i' hne), RS.fl i1n0 T13, fun q => absurd q i1n0⟩
  · have cw := bI_ne.mp c
    have e6 : k = 6 := by
      rw [h37] at ck
      rcases Nat.lt_or_ge k 6 with q | q
      · exact absurd ((nI_eq (b := 6) (by omega) (by decide)).mp ck) (by omega)
      · omega
    have e1 : rk n b k i = (2, tS n b i) := by unfold rk; rw [if_pos cw, if_pos e6]
    rw [e1] at h
    exact m_fails h24 (h _ ⟨MX.fl.za, fun a i' _ => MX.fl.a26 a i', RS.fl i2n0 hT, fun q => absurd q i2n0⟩)
  · have e1 : rk n b k i = (1, tS n b i) := by unfold rk; rw [if_neg (by rw [bI_eq.mp c]; decide)]
    rw [e1] at h
    exact m_fails h24 (h _ ⟨MX.fl.za, fun a i' _ => MX.fl.a26 a i', RS.fl i1n0 hT, fun q => absurd q i1n0⟩)
end MASKS
