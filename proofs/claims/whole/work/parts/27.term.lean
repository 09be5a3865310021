/-! Terms and agreements. -/
section TERM
variable {G : GG} {l : Launch} {d : Nat} {post : Option AVal → AS → Prop} {σ : AS} {kk nn : Nat}
def tmK (n : Nat) (b : Nat → Int32) (i : Nat) : Int32 := if isW n b i 13 = true then 0 else if isW n b i 14 = true then 1 else if isW n b i 15 = true then 2 else if isW n b i 16 = true then 3 else -1
theorem c_kindAt {n i : Nat} {b : Nat → Int32} (hS : St σ) (hR : RW σ 0 n b) (hi : i ≤ n) (hT : Tok σ n b i) (h : post (some (xI (tmK n b i))) σ) : AMet G l M_X8_kindAt (d + 5) 0 0 [xR (some (10, 0))] σ post := by
  have N : ∀ {x : Bool}, bI x = 0 → ¬ x = true := fun h e => bI_ne.mpr e h
  refine AMet.of rfl (Nat.le_of_ble_eq_true rfl) (vc_X8_kindAt (d := d + 4) (c_isWord hS hR hi hT ⟨fun c5 => c_isWord hS hR hi hT ⟨fun c6 => c_isWord hS hR hi hT ⟨fun c7 => c_isWord hS hR hi hT ⟨fun c8 => ?_, fun c8 => ?_⟩, fun c7 => ?_⟩, fun c6 => ?_⟩, fun c5 => ?_⟩))
  · rw [tmK, if_neg (N c5), if_neg (N c6), if_neg (N c7), if_neg (N c8)] at h
    exact h
  · rw [tmK, if_neg (N c5), if_neg (N c6), if_neg (N c7), if_pos (bI_ne.mp c8)] at h
    exact h
  · rw [tmK, if_neg (N c5), if_neg (N c6), if_pos (bI_ne.mp c7)] at h
    exact h
  · rw [tmK, if_neg (N c5), if_pos (bI_ne.mp c6)] at h
    exact h
  · rw [tmK, if_pos (bI_ne.mp c5)] at h
    exact h
theorem tmK_k {n i : Nat} {b : Nat → Int32} (h : ¬ tmK n b i = -1) : tK n b i = 2 := by
  by_cases c : tK n b i = 2
  · exact c
  · have z : ∀ w, ¬ isW n b i w = true := fun w e => c (isW_k e)
    exact absurd (by unfold tmK; rw [if_neg (z 13), if_neg (z 14), if_neg (z 15), if_neg (z 16)]) h
/-- a number that stands here -/
def nN (n : Nat) (b : Nat → Int32) (i : Nat) (lo hi : Int32) : Out × Int32 := if tK n b i = 3 ∧ tE n b i - tS n b i ≤ 5 then (if tV n b i < lo ∨ hi < tV n b i then ((2, tS n b i), -1) else ((0, tE n b i), tV n b i)) else ((1, tS n b i), -1)
theorem c_nN {n i : Nat} {b : Nat → Int32} {lo hi : Int32} (hS : St σ) (hR : RW σ 0 n b) (hin : i ≤ n) (hT : Tok σ n b i) (h : ∀ σ', Pass σ σ' n b (nN n b i lo hi) → post (some (xI (nN n b i lo hi).2)) σ') : AMet G l M_X9_passNumber (d + 2) 0 0 [xR (some (10, 0)), xI lo, xI hi] σ post := by
  have hle := tE_le (b := b) hin
  refine c_passNumber hS hR hin hT (fun hN => ?_) (fun hN hv => ?_) (fun hN v1 v2 σ2 T2 k2 => ?_)
  · unfold isN at hN
    have e : nN n b i lo hi = ((1, tS n b i), -1) := by unfold nN; rw [if_neg hN]
    rw [e] at h
    exact h _ (pass_fail i1n0 hS hR hT)
  · unfold isN at hN
    have e : nN n b i lo hi = ((2, tS n b i), -1) := by unfold nN; rw [if_pos hN, if_pos hv]
    rw [e] at h
    exact h _ (pass_fail i2n0 hS hR hT)
  · unfold isN at hN
    have e : nN n b i lo hi = ((0, tE n b i), tV n b i) := by unfold nN; rw [if_pos hN, if_neg (fun q => q.elim v1 v2)]
    rw [e] at h
    exact h _ (pass_ok hS hR hle.2 T2 k2)
theorem neg1_ne {v lo : Int32} (hlo : ¬ lo < 0) (h : ¬ v < lo) : ¬ v = -1 := fun e => by
  subst e
  have h1 : (0 : Int32) ≤ lo := Int32.not_lt.mp hlo
  exact absurd (Int32.le_trans h1 (Int32.not_lt.mp h)) (by decide)
theorem nN_cases {n i : Nat} {b : Nat → Int32} {lo hi : Int32} (hin : i ≤ n) (hlo : ¬ lo < 0) : ((nN n b i lo hi).1.1 = 0 ∧ ¬ (nN n b i lo hi).2 = -1 ∧ i < (nN n b i lo hi).1.2 ∧ (nN n b i lo hi).1.2 ≤ n ∧ isN n b i ∧ (nN n b i lo hi).1.2 = tE n b i ∧ (nN n b i lo hi).2 = tV n b i ∧ ¬ tV n b i < lo ∧ ¬ hi < tV n b i) ∨ (¬ (nN n b i lo hi).1.1 = 0 ∧ (nN n b i lo hi).2 = -1) := by
  have hle := tE_le (b := b) hin
  by_cases c2 : tK n b i = 3 ∧ tE n b i - tS n b i ≤ 5
  · by_cases c3 : tV n b i < lo ∨ hi < tV n b i
    · have e : nN n b i lo hi = ((2, tS n b i), -1) := by unfold nN; rw [if_pos c2, if_pos c3]
      rw [e]
      exact Or.inr ⟨i2n0, rfl⟩
    · have e : nN n b i lo hi = ((0, tE n b i), tV n b i) := by unfold nN; rw [if_pos c2, if_neg c3]
      rw [e]
      exact Or.inl ⟨rfl, neg1_ne hlo (fun q => c3 (Or.inl q)), tE_gt hin (by rw [c2.1]; decide), hle.2, c2, rfl, rfl, fun q => c3 (Or.inl q), fun q => c3 (Or.inr q)⟩
  · have e : nN n b i lo hi = ((1, tS n b i), -1) := by unfold nN; rw [if_neg c2]
    rw [e]
    exact Or.inr ⟨i1n0, rfl⟩
/-- reading into object x of kind K: only it and Tokens change -/
def RK (K : Nat) (σ σ' : AS) (x : Nat) : Prop := sameK (fun c => c ≠ K ∧ c ≠ 10) σ σ' ∧ (∀ c, cnt σ' c = cnt σ c) ∧ (∀ c f i, gR σ' c f i = gR σ c f i) ∧ (∀ c i, gN σ' c i = gN σ c i) ∧ (∀ f i, ¬ i = x → gI σ' K f i = gI σ K f i)
theorem RK.rf {K x : Nat} : RK K σ σ x := ⟨sameK.rf, fun _ => rfl, fun _ _ _ => rfl, fun _ _ => rfl, fun _ _ _ => rfl⟩
theorem RK.tr {K : Nat} {σ1 σ2 : AS} {x : Nat} (h : RK K σ σ1 x) (k : RK K σ1 σ2 x) : RK K σ σ2 x := ⟨h.1.tr k.1, fun c => (k.2.1 c).trans (h.2.1 c), fun c f i => (k.2.2.1 c f i).trans (h.2.2.1 c f i), fun c i => (k.2.2.2.1 c i).trans (h.2.2.2.1 c i), fun f i z => (k.2.2.2.2 f i z).trans (h.2.2.2.2 f i z)⟩
theorem RK.of {K : Nat} {σ' : AS} {x : Nat} (hK : K ≠ 10) (h : sameK (fun c => c ≠ 10) σ σ') (k : RF σ σ') : RK K σ σ' x := ⟨h.sub (fun c hc => hc.2), k.2.1, k.2.2.1, k.2.2.2.1, fun f i _ => (h K hK).2.1 f i⟩
theorem RK.set {K x f : Nat} {v : Int32} : RK K σ (sI σ K f x v) x := ⟨fun c hc => eqK_sI hc.1, fun _ => rfl, fun _ _ _ => rfl, fun _ _ => rfl, fun g i z => by rw [gI_sI, if_neg (fun e => z e.2.2)]⟩
theorem RK.st {K : Nat} {σ' : AS} {x : Nat} (h : RK K σ σ' x) (hS : St σ) : St σ' := hS.of fun c _ => ⟨fun f i _ => h.2.2.1 c f i, fun i _ => h.2.2.2.1 c i, Nat.le_of_eq (h.2.1 c).symm⟩
def MidT (σ σ' : AS) (x n : Nat) (b : Nat → Int32) (j : Nat) : Prop := RK 9 σ σ' x ∧ St σ' ∧ RW σ' 0 n b ∧ Tok σ' n b j ∧ gI σ' 10 0 0 = gI σ 10 0 0 ∧ gI σ' 10 1 0 = gI σ 10 1 0
def BadT (σ σ' : AS) (x n : Nat) (b : Nat → Int32) (o : Out) : Prop := RK 9 σ σ' x ∧ St σ' ∧ RW σ' 0 n b ∧ gI σ' 10 0 0 = o.1 ∧ gI σ' 10 1 0 = nI o.2
theorem tok_s9 {n j x f : Nat} {b : Nat → Int32} {v : Int32} (h : Tok σ n b j) : Tok (sI σ 9 f x v) n b j := ⟨by rw [gI_o (fun e => absurd e.1 (by decide))]; exact h.1, by rw [gI_o (fun e => absurd e.1 (by decide))]; exact h.2.1, by rw [gI_o (fun e => absurd e.1 (by decide))]; exact h.2.2.1, by rw [gI_o (fun e => absurd e.1 (by decide))]; exact h.2.2.2⟩
theorem MidT.set {σ1 : AS} {x n j f : Nat} {b : Nat → Int32} {v : Int32} (M : MidT σ σ1 x n b j) : MidT σ (sI σ1 9 f x v) x n b j := ⟨M.1.tr RK.set, M.2.1.sI, M.2.2.1.same (P := fun c => c ≠ 9) (fun c hc => eqK_sI hc) (by decide) (by decide), tok_s9 M.2.2.2.1, by rw [gI_o (fun e => absurd e.1 (by decide))]; exact M.2.2.2.2.1, by rw [gI_o (fun e => absurd e.1 (by decide))]; exact M.2.2.2.2.2⟩
theorem MidT.pass {σ1 σ2 : AS} {x n j : Nat} {b : Nat → Int32} {o : Out × Int32} (M : MidT σ σ1 x n b j) (P : Pass σ1 σ2 n b o) (z : o.1.1 = 0) : MidT σ σ2 x n b o.1.2 := by
  obtain ⟨p1, p2, p3, p4, ⟨q1, q2, q3, q4, q5⟩ | ⟨q1, -⟩⟩ := P
  · exact ⟨M.1.tr (RK.of (by decide) p1 p2), p3, p4, q2, q4.trans M.2.2.2.2.1, q5.trans M.2.2.2.2.2⟩
  · exact absurd z q1
theorem MidT.tf {σ1 σ2 : AS} {x n i j : Nat} {b : Nat → Int32} (M : MidT σ σ1 x n b i) (T : TF σ1 σ2) (k : Tok σ2 n b j) : MidT σ σ2 x n b j := ⟨M.1.tr (RK.of (by decide) T.1 T.rfr), T.st M.2.1, T.rw M.2.2.1, k, T.2.2.2.2.1.trans M.2.2.2.2.1, T.2.2.2.2.2.trans M.2.2.2.2.2⟩
theorem MidT.bad {σ1 σ2 : AS} {x n j : Nat} {b : Nat → Int32} {o : Out × Int32} (M : MidT σ σ1 x n b j) (P : Pass σ1 σ2 n b o) (z : ¬ o.1.1 = 0) : BadT σ σ2 x n b o.1 := by
  obtain ⟨p1, p2, p3, p4, ⟨q1, q2, q3, q4, q5⟩ | ⟨q1, q2, q3⟩⟩ := P
  · exact absurd q1 z
  · exact ⟨M.1.tr (RK.of (by decide) p1 p2), p3, p4, q2, q3⟩
theorem MidT.fail {σ1 : AS} {x n j : Nat} {b : Nat → Int32} (M : MidT σ σ1 x n b j) (k : Int32) : BadT σ (FailS σ1 k) x n b (k, tS n b j) := ⟨M.1.tr (RK.of (by decide) (fun c hc => (eqK_sI hc).tr (eqK_sI hc)) fail_rfr), fail_rfr.st M.2.1, fail_rfr.rw M.2.1 (by decide) (by decide) M.2.2.1, by unfold FailS; rw [gI_o (by decide), gI_self], by unfold FailS; rw [gI_self]; exact M.2.2.2.1.2.1⟩
theorem BadT.set {σ1 : AS} {x n f : Nat} {b : Nat → Int32} {v : Int32} {o : Out} (M : BadT σ σ1 x n b o) : BadT σ (sI σ1 9 f x v) x n b o := ⟨M.1.tr RK.set, M.2.1.sI, M.2.2.1.same (P := fun c => c ≠ 9) (fun c hc => eqK_sI hc) (by decide) (by decide), by rw [gI_o (fun e => absurd e.1 (by decide))]; exact M.2.2.2.1, by rw [gI_o (fun e => absurd e.1 (by decide))]; exact M.2.2.2.2⟩
/-- a term of kind k, its numbers from token j on -/
def tm1 (n : Nat) (b : Nat → Int32) (j : Nat) : Out × Int32 := nN n b j 0 99999
def tm2 (n : Nat) (b : Nat → Int32) (j : Nat) : Out × Int32 := wN n b (tm1 n b j).1.2 17 0 99999
def tmo (n : Nat) (b : Nat → Int32) (j : Nat) (k : Int32) : Out := if k = 0 then (tm1 n b j).1 else if (tm1 n b j).1.1 = 0 then (if (tm2 n b j).1.1 = 0 then (if isW n b (tm2 n b j).1.2 18 = true then (0, tE n b (tm2 n b j).1.2) else if isW n b (tm2 n b j).1.2 19 = true then (0, tE n b (tm2 n b j).1.2) else (1, tS n b (tm2 n b j).1.2)) else (tm2 n b j).1) else (tm1 n b j).1
def tmM (n : Nat) (b : Nat → Int32) (j : Nat) (k : Int32) : Int32 := if k = 0 then 0 else (tm1 n b j).2
def tmN (n : Nat) (b : Nat → Int32) (j : Nat) (k : Int32) : Int32 := if k = 0 then (tm1 n b j).2 else (tm2 n b j).2
def tmU (n : Nat) (b : Nat → Int32) (j : Nat) (k : Int32) : Int32 := if k = 0 then 0 else bI (isW n b (tm2 n b j).1.2 18)
theorem c_readNumbers {x n j : Nat} {b : Nat → Int32} {k : Int32} (hS : St σ) (hR : RW σ 0 n b) (hj : j ≤ n) (hT : Tok σ n b j) (hk : gI σ 9 0 x = k) (hm : gI σ 9 1 x = 0) (hu : gI σ 9 3 x = 0)
    (g1 : (tmo n b j k).1 = 0 → ∀ σ', MidT σ σ' x n b (tmo n b j k).2 → (tmo n b j k).2 ≤ n → j < (tmo n b j k).2 → gI σ' 9 0 x = k → gI σ' 9 1 x = tmM n b j k → gI σ' 9 2 x = tmN n b j k → gI σ' 9 3 x = tmU n b j k → post (some (xI 1)) σ')
    (g0 : ¬ (tmo n b j k).1 = 0 → ∀ σ', BadT σ σ' x n b (tmo n b j k) → post (some (xI 0)) σ') : AMet G l M_X8_readNumbers (d + 7) 0 0 [xR (some (9, x)), xR (some (10, 0))] σ post := by
  have M0 : MidT σ σ x n b j := ⟨RK.rf, hS, hR, hT, rfl, rfl⟩
  have C1 := nN_cases (b := b) (lo := 0) (hi := 99999) hj (by decide)
  refine AMet.of rfl (Nat.le_of_ble_eq_true rfl) (vc_X8_readNumbers (d := d + 6) ⟨fun c => ?_, fun c => ?_⟩)
  · rw [hk] at c
    refine c_nN hS hR hj hT (fun σ1 P1 => ?_)
    rcases C1 with C1 | C1
    · have z1 : (tm1 n b j).1.1 = 0 := C1.1
      refine ⟨fun _ => ?_, fun q => absurd q C1.2.1⟩
      have M1 := (M0.pass P1 C1.1).set (f := 1) (v := (nN n b j 0 99999).2)
      have C2 := wN_cases (b := b) (w := 17) (lo := 0) (hi := 99999) C1.2.2.2.1 (by decide)
      refine c_wN M1.2.1 M1.2.2.1 C1.2.2.2.1 M1.2.2.2.1 (fun σ2 P2 => ?_)
      rcases C2 with C2 | C2
      · have z2 : (tm2 n b j).1.1 = 0 := C2.1
        refine ⟨fun _ => ?_, fun q => absurd q C2.2.1⟩
        have M2 := (M1.pass P2 C2.1).set (f := 2) (v := (wN n b (nN n b j 0 99999).1.2 17 0 99999).2)
        refine c_isWord M2.2.1 M2.2.2.1 C2.2.2.2.1 M2.2.2.2.1 ⟨by cases isW n b (wN n b (nN n b j 0 99999).1.2 17 0 99999).1.2 18 <;> decide, by cases isW n b (wN n b (nN n b j 0 99999).1.2 17 0 99999).1.2 18 <;> decide, fun w => ?_, fun w => ?_⟩
        · have M3 := M2.set (f := 3) (v := bI (isW n b (wN n b (nN n b j 0 99999).1.2 17 0 99999).1.2 18))
          have w8 : ¬ isW n b (tm2 n b j).1.2 18 = true := fun q => bI_ne.mpr q w
          refine c_passWord M3.2.1 M3.2.2.1 C2.2.2.2.1 M3.2.2.2.1 (fun w9 => ?_) (fun w9 σ4 T4 k4 => ?_)
          · have e : tmo n b j k = (1, tS n b (tm2 n b j).1.2) := by unfold tmo; rw [if_neg c, if_pos z1, if_pos z2, if_neg w8, if_neg (by rw [show isW n b (tm2 n b j).1.2 19 = false from w9]; decide)]
            rw [e] at g0
            exact ⟨by decide, g0 i1n0 _ (M3.fail 1)⟩
          · have e : tmo n b j k = (0, tE n b (tm2 n b j).1.2) := by unfold tmo; rw [if_neg c, if_pos z1, if_pos z2, if_neg w8, if_pos (show isW n b (tm2 n b j).1.2 19 = true from w9)]
            rw [e] at g1
            have q9 := (T4.1 9 (by decide)).2.1
            have hle := tE_le (b := b) C2.2.2.2.1
            have hgt := isW_gt C2.2.2.2.1 w9
            have o1 := C1.2.2.1
            have o2 := C2.2.2.1
            refine ⟨by decide, g1 rfl σ4 (M3.tf T4 k4) hle.2 (by show j < tE n b (wN n b (nN n b j 0 99999).1.2 17 0 99999).1.2; omega) ?_ ?_ ?_ ?_⟩
            · rw [q9, gI_o (by omega), gI_o (by omega), (P2.1 9 (by decide)).2.1, gI_o (by omega), (P1.1 9 (by decide)).2.1]; exact hk
            · rw [q9, gI_o (by omega), gI_o (by omega), (P2.1 9 (by decide)).2.1, gI_self, tmM, if_neg c]; rfl
            · rw [q9, gI_o (by omega), gI_self, tmN, if_neg c]; rfl
            · rw [q9, gI_self, tmU, if_neg c]; rfl
        · have M3 := M2.set (f := 3) (v := bI (isW n b (wN n b (nN n b j 0 99999).1.2 17 0 99999).1.2 18))
          have w8 : isW n b (tm2 n b j).1.2 18 = true := bI_ne.mp w
          refine c_passWord M3.2.1 M3.2.2.1 C2.2.2.2.1 M3.2.2.2.1 (fun w9 => ?_) (fun w9 σ4 T4 k4 => ?_)
          · exact absurd (w9.symm.trans w8) (by decide)
          · have e : tmo n b j k = (0, tE n b (tm2 n b j).1.2) := by unfold tmo; rw [if_neg c, if_pos z1, if_pos z2, if_pos w8]
            rw [e] at g1
            have q9 := (T4.1 9 (by decide)).2.1
            have hle := tE_le (b := b) C2.2.2.2.1
            have hgt := isW_gt C2.2.2.2.1 w9
            have o1 := C1.2.2.1
            have o2 := C2.2.2.1
            refine ⟨by decide, g1 rfl σ4 (M3.tf T4 k4) hle.2 (by show j < tE n b (wN n b (nN n b j 0 99999).1.2 17 0 99999).1.2; omega) ?_ ?_ ?_ ?_⟩
            · rw [q9, gI_o (by omega), gI_o (by omega), (P2.1 9 (by decide)).2.1, gI_o (by omega), (P1.1 9 (by decide)).2.1]; exact hk
            · rw [q9, gI_o (by omega), gI_o (by omega), (P2.1 9 (by decide)).2.1, gI_self, tmM, if_neg c]; rfl
            · rw [q9, gI_o (by omega), gI_self, tmN, if_neg c]; rfl
            · rw [q9, gI_self, tmU, if_neg c]; rfl
      · have e : tmo n b j k = (tm2 n b j).1 := by unfold tmo; rw [if_neg c, if_pos z1, if_neg (show ¬ (tm2 n b j).1.1 = 0 from C2.1)]
        rw [e] at g0
        exact ⟨fun q => absurd C2.2 q, fun _ => g0 C2.1 _ (M1.bad P2 C2.1).set⟩
    · have e : tmo n b j k = (tm1 n b j).1 := by unfold tmo; rw [if_neg c, if_neg (show ¬ (tm1 n b j).1.1 = 0 from C1.1)]
      rw [e] at g0
      exact ⟨fun q => absurd C1.2 q, fun _ => g0 C1.1 _ (M0.bad P1 C1.1).set⟩
  · rw [hk] at c
    have e : tmo n b j k = (tm1 n b j).1 := by unfold tmo; rw [if_pos c]
    rw [e] at g0 g1
    refine c_nN hS hR hj hT (fun σ1 P1 => ?_)
    rcases C1 with C1 | C1
    · refine ⟨fun q => absurd q C1.2.1, fun _ => g1 C1.1 _ (M0.pass P1 C1.1).set C1.2.2.2.1 C1.2.2.1 ?_ ?_ ?_ ?_⟩
      · rw [gI_o (by omega), (P1.1 9 (by decide)).2.1]; exact hk
      · rw [gI_o (by omega), (P1.1 9 (by decide)).2.1, tmM, if_pos c]; exact hm
      · rw [gI_self, tmN, if_pos c]; rfl
      · rw [gI_o (by omega), (P1.1 9 (by decide)).2.1, tmU, if_pos c]; exact hu
    · exact ⟨fun _ => g0 C1.1 _ (M0.bad P1 C1.1).set, fun q => absurd C1.2 q⟩
end TERM
