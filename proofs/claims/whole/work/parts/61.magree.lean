/-! The model reads an agreement's terms. -/
section MAGREE
variable {G : GG} {l : Launch} {d : Nat} {post : Option AVal → AS → Prop} {σ : AS} {kk nn : Nat}
theorem nI_mul (a b : Nat) : nI a * nI b = nI (a * b) := (Int32.ofNat_mul a b).symm
theorem nI_8 (A t : Nat) : 8 * nI A + nI t = nI (8 * A + t) := by
  have : (8 : Int32) = nI 8 := rfl
  rw [this, nI_mul, nI_add]
/-- the first number, the second -/
def p1 (n : Nat) (b : Nat → Int32) (j : Nat) : Out × Int32 := pn n b (0, j) 0 99999
def p2 (n : Nat) (b : Nat → Int32) (j : Nat) : Out × Int32 := pn n b (pw n b (p1 n b j).1 17) 0 99999
def tl (n : Nat) (b : Nat → Int32) (o : Out) : Out := if o.1 = 0 then (if isW n b o.2 18 = true then (0, tE n b o.2) else if isW n b o.2 19 = true then (0, tE n b o.2) else (1, tS n b o.2)) else o
theorem p1_tm {n j : Nat} {b : Nat → Int32} : (p1 n b j).1 = (tm1 n b j).1 ∧ ((tm1 n b j).1.1 = 0 → (p1 n b j).2 = (tm1 n b j).2) := by
  unfold p1 tm1 pn
  rw [if_pos rfl]
  by_cases c : (nN n b j 0 99999).1.1 = 0
  · rw [if_pos c]; exact ⟨rfl, fun _ => rfl⟩
  · rw [if_neg c]; exact ⟨rfl, fun z => absurd z c⟩
theorem tmo_0 {n j : Nat} {b : Nat → Int32} : tmo n b j 0 = (p1 n b j).1 ∧ ((p1 n b j).1.1 = 0 → tmM n b j 0 = 0 ∧ tmN n b j 0 = (p1 n b j).2 ∧ tmU n b j 0 = 0) := by
  have a := p1_tm (n := n) (b := b) (j := j)
  unfold tmo tmM tmN tmU
  rw [if_pos rfl, if_pos rfl, if_pos rfl, if_pos rfl, a.1]
  exact ⟨rfl, fun z => ⟨rfl, (a.2 z).symm, rfl⟩⟩
theorem tmo_k {n j : Nat} {b : Nat → Int32} {k : Int32} (hk : ¬ k = 0) : tmo n b j k = tl n b (p2 n b j).1 ∧ ((p2 n b j).1.1 = 0 → tmM n b j k = (p1 n b j).2 ∧ tmN n b j k = (p2 n b j).2 ∧ tmU n b j k = bI (isW n b (p2 n b j).1.2 18)) := by
  have a := p1_tm (n := n) (b := b) (j := j)
  unfold tmo tmM tmN tmU tl
  rw [if_neg hk, if_neg hk, if_neg hk, if_neg hk]
  by_cases c : (tm1 n b j).1.1 = 0
  · have e : (p1 n b j).1 = (0, (tm1 n b j).1.2) := by rw [a.1]; exact o_eta c
    have a2 : (p2 n b j).1 = (tm2 n b j).1 ∧ ((tm2 n b j).1.1 = 0 → (p2 n b j).2 = (tm2 n b j).2) := by
      unfold p2; rw [e]; exact wN_pn
    rw [if_pos c, a2.1]
    by_cases c2 : (tm2 n b j).1.1 = 0
    · rw [if_pos c2]; exact ⟨rfl, fun z => ⟨(a.2 c).symm, (a2.2 c2).symm, rfl⟩⟩
    · rw [if_neg c2]; exact ⟨rfl, fun z => absurd z c2⟩
  · have e : p2 n b j = ((tm1 n b j).1, 0) := by unfold p2; rw [a.1]; exact q_bad c
    rw [if_neg c, e, if_neg c]
    exact ⟨rfl, fun z => absurd z c⟩
def PT : Nat → Prop := fun f => 20 ≤ f ∧ f ≤ 25
def QT : Nat → Nat → Prop := fun c a => (c = 26 ∧ 23 ≤ a ∧ a ≤ 26) ∨ (c = 21 ∧ a = 3)
theorem MX.zt {σ1 : AS} (h : MX σ σ1) : MZ False PT QT σ σ1 := MZ.ofQ h (fun _ a c => ⟨a, c⟩)
theorem MX.a21 {σ1 : AS} (h : MX σ σ1) (a j : Nat) : gA σ1 21 a j = gA σ 21 a j := (h.1 21 (by decide)).2.2.2.2.1 a j
/-- terms of other places are as they were -/
def KT (σ σ' : AS) (A k : Nat) : Prop := (∀ a j, a ≠ 23 → j ≠ k → gA σ' 26 a j = gA σ 26 a j) ∧ (∀ j, j ≠ A → gA σ' 26 23 j = gA σ 26 23 j) ∧ ∀ j, j ≠ k → gA σ' 21 3 j = gA σ 21 3 j
theorem KT.rf {A k : Nat} : KT σ σ A k := ⟨fun _ _ _ _ => rfl, fun _ _ => rfl, fun _ _ => rfl⟩
theorem KT.tr {σ1 σ2 : AS} {A k : Nat} (h : KT σ σ1 A k) (q : KT σ1 σ2 A k) : KT σ σ2 A k := ⟨fun a j x y => (q.1 a j x y).trans (h.1 a j x y), fun j x => (q.2.1 j x).trans (h.2.1 j x), fun j x => (q.2.2 j x).trans (h.2.2 j x)⟩
theorem KT.mq {σ1 : AS} {A k : Nat} (h : MX σ σ1) : KT σ σ1 A k := ⟨fun a j _ _ => h.a26 a j, fun j _ => h.a26 23 j, fun j _ => h.a21 3 j⟩
theorem KT.s26 {A k a : Nat} {v : Int32} (ha : a ≠ 23) : KT σ (sA σ 26 a k v) A k := ⟨fun a' j _ y => gA_o (fun e => y e.2.2), fun j _ => gA_o (fun e => ha e.2.1.symm), fun j _ => gA_o (by omega)⟩
theorem KT.s21 {A k : Nat} {v : Int32} : KT σ (sA σ 21 3 k v) A k := ⟨fun a' j _ _ => gA_o (by omega), fun j _ => gA_o (by omega), fun j y => gA_o (fun e => y e.2.2)⟩
theorem KT.s23 {A k : Nat} {v : Int32} : KT σ (sA σ 26 23 A v) A k := ⟨fun a' j x _ => gA_o (fun e => x e.2.1), fun j y => gA_o (fun e => y e.2.2), fun j _ => gA_o (by omega)⟩
theorem nar_bI {V : Bool} : vp_nar .boolean (bI V) = bI V := by cases V <;> decide +kernel
theorem m_term226 {n A j : Nat} {b : Nat → Int32} {o : Out} (hA : A < 30) (hS : St σ) (hB : MB σ j n b) (hR : RS σ n b o) (h49 : gI σ 13 49 0 = nI A) (h : ∀ σ', MX σ σ' → RS σ' n b (pg n b o 59) → post none (sA σ' 26 23 A (gA σ' 26 23 A + 1))) : AW G l M_X12_readTerm (d + 6) post σ kk nn 226 [some (xR (some (13, 0))), none, none] [] := by
  refine vc_X12_readTerm_226 (d := d + 5) (z_wants (x := 59) (d := d + 3) (by decide) hB hR (fun σ' M R => ?_))
  have e : gI σ' 13 49 0 = nI A := (M.2.2.2.2 49 0 (by omega)).trans h49
  refine ⟨M.st hS, by rw [e]; exact vp_in_nI hA (by decide), by rw [e]; exact vp_in_nI hA (by decide), ?_⟩
  rw [e, nI_clamp (by omega)]
  exact h σ' M R
theorem m_term157 {n A j k kd : Nat} {b : Nat → Int32} {o : Out} (hk : k < 240) (hA : A < 30) (hkd : kd ≤ 3) (hS : St σ) (hB : MB σ j n b) (hR : RS σ n b o)
    (h : ∀ σ', MZ False PT QT σ σ' → KT σ σ' A k → gA σ' 26 23 A = gA σ 26 23 A → (∀ a, a ≠ 26 → gA σ' 26 a k = gA σ 26 a k) → gA σ' 26 26 k = (pn n b o 0 99999).2 → (kd = 0 → gA σ' 21 3 k = gA σ 21 3 k) → (kd ≠ 0 → (pn n b o 0 99999).1.1 = 0 → gA σ' 21 3 k = bI (isW n b (pn n b o 0 99999).1.2 18)) → RS σ' n b (if kd = 0 then (pn n b o 0 99999).1 else tl n b (pn n b o 0 99999).1) → AW G l M_X12_readTerm (d + 6) post σ' kk nn 226 [some (xR (some (13, 0))), none, none] []) :
    AW G l M_X12_readTerm (d + 6) post σ kk nn 157 [some (xR (some (13, 0))), some (xI (nI kd)), some (xI (nI k))] [] := by
  refine vc_X12_readTerm_157 (d := d + 5) hS (z_number (d := d + 3) (by decide) hB hR (fun σ1 M1 R1 => ?_))
  have vk : vp_in (nI k) 240 := vp_in_nI hk (by decide)
  have Z1 : MZ False PT QT σ (sA σ1 26 26 k (pn n b o 0 99999).2) := M1.zt.setA (by decide) (Or.inl ⟨rfl, by decide, by decide⟩)
  have K1 : KT σ (sA σ1 26 26 k (pn n b o 0 99999).2) A k := (KT.mq M1).tr (KT.s26 (by decide))
  have R1' : RS (sA σ1 26 26 k (pn n b o 0 99999).2) n b (pn n b o 0 99999).1 := R1.keep (fun _ _ _ => rfl)
  have oth1 : ∀ a, a ≠ 26 → gA (sA σ1 26 26 k (pn n b o 0 99999).2) 26 a k = gA σ 26 a k := fun a ha => (gA_o (fun e => ha e.2.1)).trans (M1.a26 a k)
  have c1 : gA (sA σ1 26 26 k (pn n b o 0 99999).2) 26 23 A = gA σ 26 23 A := (gA_o (by omega)).trans (M1.a26 23 A)
  have b1 : gA (sA σ1 26 26 k (pn n b o 0 99999).2) 21 3 k = gA σ 21 3 k := (gA_o (by omega)).trans (M1.a21 3 k)
  rw [nI_clamp (by omega)]
  refine ⟨M1.st hS, vk, fun c => ?_, fun c => ⟨fun c2 => ?_, fun c2 => ?_⟩⟩
  · have e0 : kd = 0 := by have := (nI_leI (b := 0) (by omega) (by decide)).mp c; omega
    rw [if_pos e0] at h
    exact h _ Z1 K1 c1 oth1 gA_self (fun _ => b1) (fun q => absurd e0 q) R1'
  · have e0 : kd ≠ 0 := fun e => c (by rw [e]; decide)
    obtain ⟨z, f1, f2⟩ := R1'.no c2
    have et : tl n b (pn n b o 0 99999).1 = (pn n b o 0 99999).1 := by unfold tl; rw [if_neg z]
    rw [if_neg e0, et] at h
    exact h _ Z1 K1 c1 oth1 gA_self (fun q => absurd q e0) (fun _ q => absurd q z) R1'
  · have e0 : kd ≠ 0 := fun e => c (by rw [e]; decide)
    obtain ⟨z, T1, hle⟩ := R1'.ok c2
    rw [if_neg e0] at h
    have B1 := Z1.mb (fun q => by have := q.1; omega) (fun q => by rcases q with q | q <;> omega) hB
    have hle2 := tE_le (b := b) hle
    refine m_isWord (d := d + 1) B1 hle T1 ⟨Z1.st hS, vk, vk, fun cu => ?_, fun cu => ?_⟩
    · have ew : isW n b (pn n b o 0 99999).1.2 18 = true := by
        rw [nar_bI, gA_self] at cu
        exact bI_ne.mp cu
      have Z2 : MZ False PT QT σ (sA (sA σ1 26 26 k (pn n b o 0 99999).2) 21 3 k (vp_nar .boolean (bI (isW n b (pn n b o 0 99999).1.2 18)))) := Z1.setA (by decide) (Or.inr ⟨rfl, rfl⟩)
      have B2 := Z2.mb (fun q => by have := q.1; omega) (fun q => by rcases q with q | q <;> omega) hB
      refine vc_X12_readTerm_222 (d := d + 5) (m_next (d := d + 4) B2 hle2.2 (show gI _ 13 20 0 = _ from T1.2.1) (fun σ3 M3 T3 => ?_))
      refine h σ3 (Z2.tr M3.mq.zt) ((K1.tr KT.s21).tr (KT.mq M3.mq)) ((M3.mq.a26 23 A).trans ((gA_o (by omega)).trans c1)) (fun a ha => (M3.mq.a26 a k).trans ((gA_o (by omega)).trans (oth1 a ha))) ((M3.mq.a26 26 k).trans ((gA_o (by omega)).trans gA_self)) (fun q => absurd q e0) (fun _ _ => (M3.mq.a21 3 k).trans (gA_self.trans nar_bI)) ?_
      have et : tl n b (pn n b o 0 99999).1 = (0, tE n b (pn n b o 0 99999).1.2) := by unfold tl; rw [if_pos z, if_pos ew]
      rw [et]
      exact Or.inl ⟨rfl, T3, hle2.2, (M3.2.2.2.2 24 0 (by omega)).trans c2⟩
    · have ew : isW n b (pn n b o 0 99999).1.2 18 = false := by
        rw [nar_bI, gA_self] at cu
        exact bI_eq.mp cu
      have Z2 : MZ False PT QT σ (sA (sA σ1 26 26 k (pn n b o 0 99999).2) 21 3 k (vp_nar .boolean (bI (isW n b (pn n b o 0 99999).1.2 18)))) := Z1.setA (by decide) (Or.inr ⟨rfl, rfl⟩)
      have B2 := Z2.mb (fun q => by have := q.1; omega) (fun q => by rcases q with q | q <;> omega) hB
      have T2 : MTok (sA (sA σ1 26 26 k (pn n b o 0 99999).2) 21 3 k (vp_nar .boolean (bI (isW n b (pn n b o 0 99999).1.2 18)))) n b (pn n b o 0 99999).1.2 := T1.keep (fun _ _ _ => rfl)
      refine m_isWord (d := d + 1) B2 hle T2 ⟨fun cd => ?_, fun cd => m_fails c2 ?_⟩
      · refine vc_X12_readTerm_222 (d := d + 5) (m_next (d := d + 4) B2 hle2.2 T2.2.1 (fun σ3 M3 T3 => ?_))
        refine h σ3 (Z2.tr M3.mq.zt) ((K1.tr KT.s21).tr (KT.mq M3.mq)) ((M3.mq.a26 23 A).trans ((gA_o (by omega)).trans c1)) (fun a ha => (M3.mq.a26 a k).trans ((gA_o (by omega)).trans (oth1 a ha))) ((M3.mq.a26 26 k).trans ((gA_o (by omega)).trans gA_self)) (fun q => absurd q e0) (fun _ _ => (M3.mq.a21 3 k).trans (gA_self.trans nar_bI)) ?_
        have et : tl n b (pn n b o 0 99999).1 = (0, tE n b (pn n b o 0 99999).1.2) := by unfold tl; rw [if_pos z, if_neg (by rw [ew]; decide), if_pos (bI_ne.mp cd)]
        rw [et]
        exact Or.inl ⟨rfl, T3, hle2.2, (M3.2.2.2.2 24 0 (by omega)).trans c2⟩
      · have et : tl n b (pn n b o 0 99999).1 = (1, tS n b (pn n b o 0 99999).1.2) := by unfold tl; rw [if_pos z, if_neg (by rw [ew]; decide), if_neg (by rw [bI_eq.mp cd]; decide)]
        refine h _ (Z2.tr MX.fl.zt) ((K1.tr KT.s21).tr (KT.mq MX.fl)) ((gA_o (by omega)).trans c1) (fun a ha => (gA_o (by omega)).trans (oth1 a ha)) ((gA_o (by omega)).trans gA_self) (fun q => absurd q e0) (fun _ _ => gA_self.trans nar_bI) ?_
        rw [et]
        exact RS.fl i1n0 T2
end MAGREE
