/-! The model's one. -/
section MONE2
variable {G : GG} {l : Launch} {d : Nat} {σ : AS}
theorem EvF.off {rdg : Bool} {g : Nat → Int32} (h : EvF σ rdg g) (r : rdg = false) : gI σ 13 27 0 = 0 := by
  rcases h with ⟨h1, _⟩ | ⟨_, h2, _⟩
  · rw [h1] at r; cases r
  · exact h2
theorem EvF.on {rdg : Bool} {g : Nat → Int32} (h : EvF σ rdg g) (r : gI σ 13 27 0 = 0) : ∃ p F, p < 40 ∧ gI σ 13 28 0 = nI p ∧ gI σ 13 12 0 = nI F ∧ F ≤ 2600 ∧ gA σ 26 0 p = g 1 ∧ gA σ 26 1 p = g 2 ∧ gA σ 26 2 p = g 3 ∧ gA σ 26 3 p = g 4 ∧ ∀ v, v < 20 → ((0 < timN (fun i => gA σ 26 8 i) (fun i => gA σ 26 9 i) (nI p) (nI v) F) ↔ jb (g 9) (nI v) = true) := by
  rcases h with ⟨_, h2⟩ | ⟨_, _, h3⟩
  · exact absurd r h2
  · exact h3
theorem ng {n i : Nat} {b : Nat → Int32} {x : Int32} (e : isG n b i x = false) : ¬ isG n b i x = true := fun q => by rw [e] at q; cases q
theorem hB_1 {g : Nat → Int32} {v : Int32} : hB g (nI 1) v = jb (g 3) v := rfl
theorem hB_2 {g : Nat → Int32} {v : Int32} : hB g (nI 2) v = decide (g 4 = v) := rfl
theorem hB_3 {g : Nat → Int32} {v : Int32} : hB g (nI 3) v = jb (g 9) v := rfl
theorem hB_4 {g : Nat → Int32} {v : Int32} : hB g (nI 4) v = decide (g 1 < v) := rfl
theorem hB_5 {g : Nat → Int32} {v : Int32} : hB g (nI 5) v = decide (v < g 1) := rfl
theorem hB_6 {g : Nat → Int32} {v : Int32} : hB g (nI 6) v = decide (g 2 < v) := rfl
theorem hB_7 {g : Nat → Int32} {v : Int32} : hB g (nI 7) v = decide (v < g 2) := rfl
theorem rm_low {n i k : Nat} {b : Nat → Int32} (hk : k ≤ 3) (e : mkH n b i = nI k) : rm n b i = rmN n b (tE n b i) (nI k) := by
  have z : ∀ k, k ≤ 3 → ¬ nI k = -1 ∧ ¬ (nI k = 4 ∨ nI k = 6) := by decide +kernel
  unfold rm
  rw [e, if_neg (z k hk).1, if_neg (z k hk).2]
theorem m_one310 {rdg : Bool} {g : Nat → Int32} {σ1 : AS} {j n i1 K : Nat} {b : Nat → Int32} {v3 v4 : Int32} {post : Option AVal → AS → Prop} (hK : (K = 4 ∧ ¬ v3 = 0 ∧ ¬ v4 = 0) ∨ (K = 5 ∧ ¬ v3 = 0 ∧ v4 = 0) ∨ (K = 6 ∧ v3 = 0 ∧ ¬ v4 = 0) ∨ (K = 7 ∧ v3 = 0 ∧ v4 = 0)) (F : MX σ σ1) (hS : St σ1) (hB' : MB σ1 j n b) (hi1 : i1 ≤ n) (hT : MTok σ1 n b i1) (h0 : gI σ1 13 24 0 = 0) (hE : EvF σ1 rdg g)
    (h : ∀ σ' V, MA rdg g σ σ' n b (oMk n b (tE n b i1) (nI K)) V → post (some (xI (bI V))) σ') : AW G l M_X12_one (d + 5) post σ1 0 0 310 [some (xR (some (13, 0))), none, none, some (xI v3), some (xI v4), none, none] [] := by
  have hle := tE_le (b := b) hi1
  have K7 : K ≤ 7 ∧ K ≠ 0 ∧ hiOf (nI K) = 99999 := by
    rcases hK with q | q | q | q
    all_goals
      rw [q.1]
      decide
  refine vc_X12_one_310 (d := d + 4) (m_next hB' hle.2 hT.2.1 (fun σ2 M T => m_markNum (d := d + 2) K7.1 K7.2.1 K7.2.2 (F.tr M.mq) (M.st hS) (M.mb hB') hle.2 T ((M.2.2.2.2 24 0 (by omega)).trans h0) (hE.keep M.mq) (fun v σ3 S3 E3 U => ⟨S3, fun c => ?_, fun c => h _ false (U false (fun r m _ _ _ => absurd (E3.off r) c))⟩)))
  obtain ⟨p, F', hp, h28, h12, hF, a0, a1, a2, a3, sn⟩ := E3.on c
  have vi : vp_in (gI σ3 13 28 0) 40 := by rw [h28]; exact vp_in_nI hp (by decide)
  rw [h28, nI_clamp (by omega), a0, a1]
  rw [h28] at vi
  refine ⟨fun c3 => ⟨vi, fun c4 => ⟨fun q => ?_, fun q => ?_⟩, fun c4 => ⟨fun q => ?_, fun q => ?_⟩⟩, fun c3 => ⟨vi, fun c4 => ⟨fun q => ?_, fun q => ?_⟩, fun c4 => ⟨fun q => ?_, fun q => ?_⟩⟩⟩
  · have e : K = 7 := by rcases hK with z | z | z | z <;> first | exact absurd c3 z.2.1 | exact absurd c4 z.2.2 | exact z.1
    subst e
    exact h _ false (U false (fun _ m _ _ _ => by rw [hB_7, decide_eq_false (Int32.not_lt.mpr q)]))
  · have e : K = 7 := by rcases hK with z | z | z | z <;> first | exact absurd c3 z.2.1 | exact absurd c4 z.2.2 | exact z.1
    subst e
    exact h _ true (U true (fun _ m _ _ _ => by rw [hB_7, decide_eq_true (Int32.not_le.mp q)]))
  · have e : K = 6 := by rcases hK with z | z | z | z <;> first | exact absurd c3 z.2.1 | exact absurd z.2.2 c4 | exact z.1
    subst e
    exact h _ false (U false (fun _ m _ _ _ => by rw [hB_6, decide_eq_false (Int32.not_lt.mpr q)]))
  · have e : K = 6 := by rcases hK with z | z | z | z <;> first | exact absurd c3 z.2.1 | exact absurd z.2.2 c4 | exact z.1
    subst e
    exact h _ true (U true (fun _ m _ _ _ => by rw [hB_6, decide_eq_true (Int32.not_le.mp q)]))
  · have e : K = 5 := by rcases hK with z | z | z | z <;> first | exact absurd z.2.1 c3 | exact absurd c4 z.2.2 | exact z.1
    subst e
    exact h _ false (U false (fun _ m _ _ _ => by rw [hB_5, decide_eq_false (Int32.not_lt.mpr q)]))
  · have e : K = 5 := by rcases hK with z | z | z | z <;> first | exact absurd z.2.1 c3 | exact absurd c4 z.2.2 | exact z.1
    subst e
    exact h _ true (U true (fun _ m _ _ _ => by rw [hB_5, decide_eq_true (Int32.not_le.mp q)]))
  · have e : K = 4 := by rcases hK with z | z | z | z <;> first | exact absurd z.2.1 c3 | exact absurd z.2.2 c4 | exact z.1
    subst e
    exact h _ false (U false (fun _ m _ _ _ => by rw [hB_4, decide_eq_false (Int32.not_lt.mpr q)]))
  · have e : K = 4 := by rcases hK with z | z | z | z <;> first | exact absurd z.2.1 c3 | exact absurd z.2.2 c4 | exact z.1
    subst e
    exact h _ true (U true (fun _ m _ _ _ => by rw [hB_4, decide_eq_true (Int32.not_le.mp q)]))
theorem m_one277 {rdg : Bool} {g : Nat → Int32} {j n i K : Nat} {b : Nat → Int32} {v3 : Int32} {post : Option AVal → AS → Prop} (hK : (K = 4 ∧ ¬ v3 = 0) ∨ (K = 6 ∧ v3 = 0)) (hm : mkH n b i = nI K) (hS : St σ) (hB' : MB σ j n b) (hi : i ≤ n) (hT : MTok σ n b i) (h0 : gI σ 13 24 0 = 0) (hE : EvF σ rdg g)
    (h : ∀ σ' V, MA rdg g σ σ' n b (if (rm n b i).1.1 = 0 then ((rm n b i).1, [(rm n b i).2]) else ((rm n b i).1, [])) V → post (some (xI (bI V))) σ') : AW G l M_X12_one (d + 5) post σ 0 0 277 [some (xR (some (13, 0))), none, none, some (xI v3), none, none, none] [] := by
  have hle := tE_le (b := b) hi
  have z1 : ¬ nI K = -1 := by rcases hK with q | q <;> rw [q.1] <;> decide
  have z2 : nI K = 4 ∨ nI K = 6 := by rcases hK with q | q <;> rw [q.1] <;> decide
  have z3 : nI K + 1 = nI (K + 1) := nI_1 K
  refine vc_X12_one_277 (d := d + 4) (m_next hB' hle.2 hT.2.1 (fun σ1 M T => m_is (x := 60) (M.mb hB') hle.2 T (by decide) ⟨fun c => ?_, fun c => m_is (x := 62) (M.mb hB') hle.2 T (by decide) ⟨fun c2 => ?_, fun c2 => m_fails ((M.2.2.2.2 24 0 (by omega)).trans h0) (h _ false ?_)⟩⟩))
  · have e : rm n b i = rmN n b (tE n b (tE n b i)) (nI K) := by
      unfold rm; rw [hm, if_neg z1, if_pos z2, if_pos (show isG n b (tE n b i) 60 = true from bI_ne.mp c)]
    rw [e] at h
    exact m_one310 (by rcases hK with q | q
                       · exact Or.inl ⟨q.1, q.2, c⟩
                       · exact Or.inr (Or.inr (Or.inl ⟨q.1, q.2, c⟩))) M.mq (M.st hS) (M.mb hB') hle.2 T ((M.2.2.2.2 24 0 (by omega)).trans h0) (hE.keep M.mq) h
  · have e : rm n b i = rmN n b (tE n b (tE n b i)) (nI (K + 1)) := by
      unfold rm; rw [hm, if_neg z1, if_pos z2, if_neg (show ¬ isG n b (tE n b i) 60 = true from ng (bI_eq.mp c)), if_pos (show isG n b (tE n b i) 62 = true from bI_ne.mp c2), z3]
    rw [e] at h
    exact m_one310 (by rcases hK with q | q
                       · exact Or.inr (Or.inl ⟨by omega, q.2, c⟩)
                       · exact Or.inr (Or.inr (Or.inr ⟨by omega, q.2, c⟩))) M.mq (M.st hS) (M.mb hB') hle.2 T ((M.2.2.2.2 24 0 (by omega)).trans h0) (hE.keep M.mq) h
  · have e : rm n b i = ((1, tS n b (tE n b i)), 0) := by
      unfold rm; rw [hm, if_neg z1, if_pos z2, if_neg (show ¬ isG n b (tE n b i) 60 = true from ng (bI_eq.mp c)), if_neg (show ¬ isG n b (tE n b i) 62 = true from ng (bI_eq.mp c2))]
    rw [e, if_neg i1n0]
    exact MA.pre M.mq (MA.fl i1n0 T)
theorem mone_succ {rdg : Bool} {g : Nat → Int32} {j n f : Nat} {b : Nat → Int32} (ih1 : MOne G l n b j rdg g f) (ih2 : MAny G l n b j rdg g f) : MOne G l n b j rdg g (f + 1) := by
  intro dep i σ D post hdep hf hi hS hB' hT h0 hE hD h
  obtain ⟨d, rfl⟩ : ∃ d, D = d + 5 := ⟨D - 5, by omega⟩
  have hle := tE_le (b := b) hi
  have N : ∀ {x : Bool}, bI x = 0 → ¬ x = true := fun h e => bI_ne.mpr e h
  have w29 : ∀ v2 : Int32, (v2 = 0 ↔ ¬ isW n b i 4 = true) → (isW n b i 4 = true ∨ isG n b i 40 = true) → AW G l M_X12_one (d + 5) post σ 0 0 29 [some (xR (some (13, 0))), some (xI (nI dep)), some (xI v2), none, none, none, none] [] := by
    intro v2 hv hwg
    refine vc_X12_one_29 (d := d + 4) ⟨fun c => ?_, fun c => ?_⟩
    · have h8 : dep < 8 := by
        rcases Nat.lt_or_ge dep 8 with q | q
        · exact q
        · have e : dep = 8 := by omega
          subst e; exact absurd rfl c
      refine m_next hB' hle.2 hT.2.1 (fun σ1 M T => ⟨fun c2 => ?_, fun c2 => ?_⟩)
      · have hw := hv.mp c2
        have hg : isG n b i 40 = true := hwg.resolve_left hw
        rw [nI_1]
        refine ih2 (dep + 1) (tE n b i) σ1 (d + 4) _ (by omega) (by have := isG_gt hi hg; omega) hle.2 (M.st hS) (M.mb hB') T ((M.2.2.2.2 24 0 (by omega)).trans h0) (hE.keep M.mq) (by omega) (fun σ2 V A => ?_)
        rcases A with ⟨F, ⟨z, T2, f0, v⟩ | ⟨z, f1, f2⟩⟩
        · have q := (rd_ok n b f).2 (dep + 1) _ false false hle.2 z
          refine m_wants (x := 41) ((M.mq.tr F).mb hB') q.2 T2 (by decide) f0 (fun g0 => ⟨vb, h _ V ?_⟩) (fun g1 σ3 M3 T3 => ⟨vb, h _ V ?_⟩)
          · have e : rd n b (f + 1) true dep i false false = ((1, tS n b (rd n b f false (dep + 1) (tE n b i) false false).1.2), []) := by
              rw [rd, if_neg hw, if_pos hg, if_pos h8, if_pos z, if_neg (show ¬ isG n b (rd n b f false (dep + 1) (tE n b i) false false).1.2 41 = true from ng g0)]
            rw [e]; exact MA.pre (M.mq.tr F) (MA.fl i1n0 T2)
          · have e : rd n b (f + 1) true dep i false false = ((0, tE n b (rd n b f false (dep + 1) (tE n b i) false false).1.2), (rd n b f false (dep + 1) (tE n b i) false false).2) := by
              rw [rd, if_neg hw, if_pos hg, if_pos h8, if_pos z, if_pos (show isG n b (rd n b f false (dep + 1) (tE n b i) false false).1.2 41 = true from g1)]
            rw [e]
            exact ⟨(M.mq.tr F).tr M3.mq, Or.inl ⟨rfl, T3, (M3.2.2.2.2 24 0 (by omega)).trans f0, v⟩⟩
        · refine m_wantsS (by rw [f1]; exact z) ⟨vb, h _ V ?_⟩
          have e : rd n b (f + 1) true dep i false false = ((rd n b f false (dep + 1) (tE n b i) false false).1, []) := by
            rw [rd, if_neg hw, if_pos hg, if_pos h8, if_neg z]
          rw [e]
          exact ⟨M.mq.tr F, Or.inr ⟨z, f1, f2⟩⟩
      · have hw : isW n b i 4 = true := by
          cases q : isW n b i 4
          · exact absurd (hv.mpr (by rw [q]; decide)) c2
          · rfl
        rw [nI_1]
        refine ih1 (dep + 1) (tE n b i) σ1 (d + 4) _ (by omega) (by have := isW_gt hi hw; omega) hle.2 (M.st hS) (M.mb hB') T ((M.2.2.2.2 24 0 (by omega)).trans h0) (hE.keep M.mq) (by omega) (fun σ2 V A => ?_)
        have A' : MA rdg g σ σ2 n b (rd n b (f + 1) true dep i false false) (!V) := by
          rcases A with ⟨F, ⟨z, T2, f0, v⟩ | ⟨z, f1, f2⟩⟩
          · rw [rd, if_pos hw, if_pos h8, if_pos z]
            refine ⟨M.mq.tr F, Or.inl ⟨z, T2, f0, v.imp id (fun v stk => ?_)⟩⟩
            rw [runB_app, v stk, run_not]
          · rw [rd, if_pos hw, if_pos h8, if_neg z]
            exact ⟨M.mq.tr F, Or.inr ⟨z, f1, f2⟩⟩
        refine ⟨fun c3 => ?_, fun c3 => ?_⟩
        · rw [bI_ne.mp c3] at A'; exact h _ _ A'
        · rw [bI_eq.mp c3] at A'; exact h _ _ A'
    · have h8 : ¬ dep < 8 := fun q => by
        have z : ∀ k, k < 8 → ¬ nI k = 8 := by decide +kernel
        exact z dep q c
      refine m_fails h0 (h _ false ?_)
      have e : rd n b (f + 1) true dep i false false = ((2, tS n b i), []) := by
        by_cases hw : isW n b i 4 = true
        · rw [rd, if_pos hw, if_neg h8]
        · rw [rd, if_neg hw, if_pos (hwg.resolve_left hw), if_neg h8]
      rw [e]
      exact MA.fl i2n0 hT
  refine AMet.of rfl (Nat.le_of_ble_eq_true rfl) (vc_X12_one (d := d + 4) ⟨fun _ => m_isWord hB' hi hT ⟨fun c4 => w29 _ ⟨fun q => absurd q c4, fun q => absurd (bI_ne.mp c4) q⟩ (Or.inl (bI_ne.mp c4)), fun c4 => m_is (x := 40) hB' hi hT (by decide) ⟨fun cg => ?_, fun cg => w29 _ ⟨fun q => N c4, fun q => c4⟩ (Or.inr (bI_ne.mp cg))⟩⟩, fun c => absurd h0 c⟩)
  have hw := N c4
  have hg : ¬ isG n b i 40 = true := N cg
  have eM : rd n b (f + 1) true dep i false false = if (rm n b i).1.1 = 0 then ((rm n b i).1, [(rm n b i).2]) else ((rm n b i).1, []) := by rw [rd, if_neg hw, if_neg hg]
  rw [eM] at h
  refine m_isWord hB' hi hT ⟨fun c5 => m_isWord hB' hi hT ⟨fun c6 => m_isWord hB' hi hT ⟨fun c7 => m_isWord hB' hi hT ⟨fun c8 => m_isWord hB' hi hT ⟨fun c9 => ?_, fun c9 => m_isWord hB' hi hT ⟨fun c10 => ?_, fun c10 => ?_⟩⟩, fun c8 => ?_⟩, fun c7 => ?_⟩, fun c6 => ?_⟩, fun c5 => ?_⟩
  · have e : mkH n b i = nI 4 := by rw [mkH, if_neg (N c5), if_neg (N c6), if_neg (N c7), if_neg (N c8), if_pos (bI_ne.mp c9)]; rfl
    exact m_one277 (Or.inl ⟨rfl, c9⟩) e hS hB' hi hT h0 hE h
  · have e : mkH n b i = nI 6 := by rw [mkH, if_neg (N c5), if_neg (N c6), if_neg (N c7), if_neg (N c8), if_neg (N c9), if_pos (bI_ne.mp c10)]; rfl
    exact m_one277 (Or.inr ⟨rfl, c9⟩) e hS hB' hi hT h0 hE h
  · have e : rm n b i = ((1, tS n b i), 0) := by
      unfold rm
      rw [mkH, if_neg (N c5), if_neg (N c6), if_neg (N c7), if_neg (N c8), if_neg (N c9), if_neg (N c10), if_pos rfl]
    rw [e, if_neg i1n0] at h
    exact m_fails h0 (h _ false (MA.fl i1n0 hT))
  · have e : mkH n b i = nI 3 := by rw [mkH, if_neg (N c5), if_neg (N c6), if_neg (N c7), if_pos (bI_ne.mp c8)]; rfl
    rw [rm_low (by decide) e] at h
    refine m_next hB' hle.2 hT.2.1 (fun σ1 M T => m_markNum (d := d + 2) (k := 3) (by decide) (by decide) (hi := 19) (by decide) M.mq (M.st hS) (M.mb hB') hle.2 T ((M.2.2.2.2 24 0 (by omega)).trans h0) (hE.keep M.mq) (fun v σ2 S2 E2 U => ⟨fun c => h _ false (U false (fun r m _ _ _ => absurd (E2.off r) c)), fun c => ?_⟩))
    obtain ⟨p, F', hp, h28, h12, hF, a0, a1, a2, a3, sn⟩ := E2.on c
    rw [h12, h28]
    refine m_times S2 hF ⟨fun q => ?_, fun q => ?_⟩
    · refine h _ false (U false (fun _ m hm em hh => ?_))
      have hm : m < 20 := by have := (nI_leI (b := 19) (by omega) (by decide)).mp hh; omega
      have s := sn m hm
      rw [em] at q ⊢
      have t0 := (nI_leI (b := 0) (by have := timN_le (P := fun i => gA σ2 26 8 i) (S := fun i => gA σ2 26 9 i) (p := nI p) (v := nI m) F'; omega) (by decide)).mp q
      rw [hB_3]
      cases z : jb (g 9) (nI m)
      · rfl
      · have := s.mpr z
        omega
    · refine h _ true (U true (fun _ m hm em hh => ?_))
      have hm : m < 20 := by have := (nI_leI (b := 19) (by omega) (by decide)).mp hh; omega
      have s := sn m hm
      rw [em] at q ⊢
      rw [hB_3]
      refine (s.mp ?_).symm
      rcases Nat.eq_zero_or_pos (timN (fun i => gA σ2 26 8 i) (fun i => gA σ2 26 9 i) (nI p) (nI m) F') with z | z
      · rw [z] at q; exact absurd (by decide) q
      · exact z
  · have e : mkH n b i = nI 2 := by rw [mkH, if_neg (N c5), if_neg (N c6), if_pos (bI_ne.mp c7)]; rfl
    rw [rm_low (by decide) e] at h
    refine m_next hB' hle.2 hT.2.1 (fun σ1 M T => m_markNum (d := d + 2) (k := 2) (by decide) (by decide) (hi := 3) (by decide) M.mq (M.st hS) (M.mb hB') hle.2 T ((M.2.2.2.2 24 0 (by omega)).trans h0) (hE.keep M.mq) (fun v σ2 S2 E2 U => ⟨S2, fun c => h _ false (U false (fun r m _ _ _ => absurd (E2.off r) c)), fun c => ?_⟩))
    obtain ⟨p, F', hp, h28, h12, hF, a0, a1, a2, a3, sn⟩ := E2.on c
    rw [h28, nI_clamp (by omega), a3]
    exact ⟨vp_in_nI hp (by decide), fun q => h _ false (U false (fun _ m _ _ _ => by rw [hB_2, decide_eq_false q])), fun q => h _ true (U true (fun _ m _ _ _ => by rw [hB_2, decide_eq_true q]))⟩
  · have e : mkH n b i = nI 1 := by rw [mkH, if_neg (N c5), if_pos (bI_ne.mp c6)]; rfl
    rw [rm_low (by decide) e] at h
    refine m_next hB' hle.2 hT.2.1 (fun σ1 M T => m_markNum (d := d + 2) (k := 1) (by decide) (by decide) (hi := 15) (by decide) M.mq (M.st hS) (M.mb hB') hle.2 T ((M.2.2.2.2 24 0 (by omega)).trans h0) (hE.keep M.mq) (fun v σ2 S2 E2 U => ⟨S2, fun c => h _ false (U false (fun r m _ _ _ => absurd (E2.off r) c)), fun c => ?_⟩))
    obtain ⟨p, F', hp, h28, h12, hF, a0, a1, a2, a3, sn⟩ := E2.on c
    rw [h28, nI_clamp (by omega), a2]
    exact ⟨vp_in_nI hp (by decide), fun q => h _ false (U false (fun _ m _ _ _ => by rw [hB_1, jb, if_neg q])), fun q => h _ true (U true (fun _ m _ _ _ => by rw [hB_1, jb, if_pos q]))⟩
  · have e : mkH n b i = nI 0 := by rw [mkH, if_pos (bI_ne.mp c5)]; rfl
    rw [rm_low (by decide) e] at h
    have e2 : rmN n b (tE n b i) (nI 0) = ((0, tE n b i), nI (0 * 100000 + 0)) := by unfold rmN; rw [if_pos (by decide)]; rfl
    rw [e2, if_pos rfl] at h
    refine m_next hB' hle.2 hT.2.1 (fun σ1 M T => h _ true ⟨M.mq, Or.inl ⟨rfl, T, (M.2.2.2.2 24 0 (by omega)).trans h0, Or.inr (fun stk => ?_)⟩⟩)
    rw [run_mark (by decide) (by decide)]
    rfl
end MONE2
