/-! The model's feed, tell, seen, retake, record, pay. -/
section MOPS3
variable {G : GG} {l : Launch} {d : Nat} {post : Option AVal → AS → Prop} {σ : AS} {kk nn : Nat} {N : Nat}
theorem put4_lt {b : Nat → Int32} {n i : Nat} {x : Int32} (h : i < n) : put4 b n x i = b i := by
  unfold put4 snoc
  rw [if_neg (by omega), if_neg (by omega), if_neg (by omega), if_neg (by omega)]
theorem put4_at {b : Nat → Int32} {n : Nat} {x : Int32} : ∀ r, r < 4 → put4 b n x (n + r) = byt x (nI (24 - 8 * r))
  | 0, _ => by unfold put4 snoc; rw [if_neg (by omega), if_neg (by omega), if_neg (by omega), if_pos (by omega)]; rfl
  | 1, _ => by unfold put4 snoc; rw [if_neg (by omega), if_neg (by omega), if_pos (by omega)]; rfl
  | 2, _ => by unfold put4 snoc; rw [if_neg (by omega), if_pos (by omega)]; rfl
  | 3, _ => by unfold put4 snoc; rw [if_pos (by omega)]; rfl
  | r + 4, h => absurd h (by omega)
def sel5 (x1 x2 x3 x4 x5 : Int32) (k : Nat) : Int32 := if k < 4 then x1 else if k < 8 then x2 else if k < 12 then x3 else if k < 16 then x4 else x5
theorem put20_lt {b : Nat → Int32} {n i : Nat} {x1 x2 x3 x4 x5 : Int32} (h : i < n) : put20 b n x1 x2 x3 x4 x5 i = b i := by
  unfold put20
  rw [put4_lt (by omega), put4_lt (by omega), put4_lt (by omega), put4_lt (by omega), put4_lt h]
theorem put20_at {b : Nat → Int32} {n k : Nat} {x1 x2 x3 x4 x5 : Int32} (hk : k < 20) : put20 b n x1 x2 x3 x4 x5 (n + k) = byt (sel5 x1 x2 x3 x4 x5 k) (nI (24 - 8 * (k % 4))) := by
  unfold put20 sel5
  by_cases c1 : k < 4
  · rw [if_pos c1, put4_lt (by omega), put4_lt (by omega), put4_lt (by omega), put4_lt (by omega), put4_at k c1, Nat.mod_eq_of_lt c1]
  · rw [if_neg c1]
    by_cases c2 : k < 8
    · rw [if_pos c2, put4_lt (by omega), put4_lt (by omega), put4_lt (by omega), show n + k = n + 4 + (k - 4) by omega, put4_at _ (by omega), show k % 4 = k - 4 by omega]
    · rw [if_neg c2]
      by_cases c3 : k < 12
      · rw [if_pos c3, put4_lt (by omega), put4_lt (by omega), show n + k = n + 8 + (k - 8) by omega, put4_at _ (by omega), show k % 4 = k - 8 by omega]
      · rw [if_neg c3]
        by_cases c4 : k < 16
        · rw [if_pos c4, put4_lt (by omega), show n + k = n + 12 + (k - 12) by omega, put4_at _ (by omega), show k % 4 = k - 12 by omega]
        · rw [if_neg c4, show n + k = n + 16 + (k - 16) by omega, put4_at _ (by omega), show k % 4 = k - 16 by omega]
theorem sgb_k {x : Int32} {k : Nat} (hk : k < 20) : vp_nar .byte ((x >>> ((24 - (8 * (nI k - nI k / 4 * 4))) &&& 31)).toInt8.toInt32) = sgb (byt x (nI (24 - 8 * (k % 4)))) := by
  have e : ∀ k, k < 20 → (24 - (8 * (nI k - nI k / 4 * 4))) = (24 - (8 * (nI (k % 4) - nI (k % 4) / 4 * 4))) := by decide +kernel
  rw [e k hk]
  exact sgb_byt (k % 4) (by omega)
/-- the model's tape -/
def TapM (σ : AS) (n : Nat) (b : Nat → Int32) : Prop := gI σ 13 17 0 = nI n ∧ n ≤ 1000 ∧ ∀ i, i < n → gA σ 22 0 i = sgb (b i)
theorem m_feed {n : Nat} {b : Nat → Int32} {x1 x2 x3 x4 x5 : Int32} (hS : St σ) (hT : TapM σ n b) (h0 : ¬ n + 20 ≤ 1000 → post (some (xI (-1))) (T0 σ)) (h1 : n + 20 ≤ 1000 → ∀ σ', MZ False (fun f => f = 0 ∨ f = 17) (fun c a => c = 22 ∧ a = 0) σ σ' → gI σ' 13 0 0 = 0 → TapM σ' (n + 20) (put20 b n x1 x2 x3 x4 x5) → post (some (xI (nI (n + 20)))) σ') : AMet G l M_X12_feed d 0 0 [xR (some (13, 0)), xI x1, xI x2, xI x3, xI x4, xI x5] σ post := by
  obtain ⟨h17, hn, hb⟩ := hT
  have e20 : nI n + 20 = nI (n + 20) := nI_add n 20
  refine AMet.of rfl (Nat.le_of_ble_eq_true rfl) (vc_X12_feed ⟨fun c => ?_, fun c => ?_⟩)
  · rw [h17, e20] at c
    have c1 := (nI_leI (b := 1000) (by omega) (by decide)).mp c
    have loop : ∀ (f k : Nat) (σ1 : AS), 20 - k = f → k ≤ 20 → MZ False (fun f => f = 0 ∨ f = 17) (fun c a => c = 22 ∧ a = 0) σ σ1 → gI σ1 13 0 0 = 0 → gI σ1 13 17 0 = nI (n + k) → (∀ i, i < n + k → gA σ1 22 0 i = sgb (put20 b n x1 x2 x3 x4 x5 i)) → AW G l M_X12_feed d post σ1 0 0 23 [some (xR (some (13, 0))), some (xI x1), some (xI x2), some (xI x3), some (xI x4), some (xI x5), some (xI (nI k)), none] [] := by
      intro f
      induction f with
      | zero =>
        intro k σ1 hf hk Z z0 z17 B
        have e : k = 20 := by omega
        subst e
        refine vc_X12_feed_23 (Z.st hS) ⟨fun _ => ?_, fun q => absurd (by decide) q⟩
        rw [z17]
        exact h1 c1 σ1 Z z0 ⟨z17, c1, B⟩
      | succ f ih =>
        intro k σ1 hf hk Z z0 z17 B
        have hk20 : k < 20 := by omega
        have vi : vp_in (nI (n + k)) 1000 := vp_in_nI (by omega) (by decide)
        have fin : ∀ x, sel5 x1 x2 x3 x4 x5 k = x → AW G l M_X12_feed d post (sI (sA σ1 22 0 (n + k) (vp_nar .byte ((x >>> ((24 - (8 * (nI k - nI k / 4 * 4))) &&& 31)).toInt8.toInt32))) 13 17 0 (nI (n + k) + 1)) 0 0 23 [some (xR (some (13, 0))), some (xI x1), some (xI x2), some (xI x3), some (xI x4), some (xI x5), some (xI (nI k + 1)), none] [] := by
          intro x ex
          rw [nI_1, nI_1, sgb_k hk20, ← ex, ← put20_at (b := b) (n := n) hk20]
          refine ih (k + 1) _ (by omega) (by omega) ((Z.setA (by decide) ⟨rfl, rfl⟩).set (Or.inr rfl)) ?_ gI_self (fun i hi => ?_)
          · rw [gI_o (by decide)]; exact z0
          · show gA (sA σ1 22 0 (n + k) _) 22 0 i = _
            by_cases e : i = n + k
            · subst e; exact gA_self
            · rw [gA_o (fun q => e q.2.2)]; exact B i (by omega)
        have lit : ∀ m, m < 2 ^ 31 → ∀ {y : Int32}, y = nI m → (y ≤ nI k ↔ m ≤ k) := fun m hm y ey => by rw [ey]; exact nI_leI hm (by omega)
        refine vc_X12_feed_23 (Z.st hS) ⟨fun q => absurd ((lit 20 (by decide) rfl).mp q) (by omega), fun _ => ?_⟩
        rw [z17, nI_clamp (by omega)]
        refine ⟨fun a4 => ⟨fun a8 => ⟨fun a12 => ⟨fun a16 => ⟨vi, fin _ ?_⟩, fun a16 => ⟨vi, fin _ ?_⟩⟩, fun a12 => ⟨vi, fin _ ?_⟩⟩, fun a8 => ⟨vi, fin _ ?_⟩⟩, fun a4 => ⟨vi, fin _ ?_⟩⟩
        · have b4 := (lit 4 (by decide) rfl).mp a4; have b8 := (lit 8 (by decide) rfl).mp a8; have b12 := (lit 12 (by decide) rfl).mp a12; have b16 := (lit 16 (by decide) rfl).mp a16
          unfold sel5; rw [if_neg (by omega), if_neg (by omega), if_neg (by omega), if_neg (by omega)]
        · have b4 := (lit 4 (by decide) rfl).mp a4; have b8 := (lit 8 (by decide) rfl).mp a8; have b12 := (lit 12 (by decide) rfl).mp a12; have b16 : ¬ 16 ≤ k := fun q => a16 ((lit 16 (by decide) rfl).mpr q)
          unfold sel5; rw [if_neg (by omega), if_neg (by omega), if_neg (by omega), if_pos (by omega)]
        · have b4 := (lit 4 (by decide) rfl).mp a4; have b8 := (lit 8 (by decide) rfl).mp a8; have b12 : ¬ 12 ≤ k := fun q => a12 ((lit 12 (by decide) rfl).mpr q)
          unfold sel5; rw [if_neg (by omega), if_neg (by omega), if_pos (by omega)]
        · have b4 := (lit 4 (by decide) rfl).mp a4; have b8 : ¬ 8 ≤ k := fun q => a8 ((lit 8 (by decide) rfl).mpr q)
          unfold sel5; rw [if_neg (by omega), if_pos (by omega)]
        · have b4 : ¬ 4 ≤ k := fun q => a4 ((lit 4 (by decide) rfl).mpr q)
          unfold sel5; rw [if_pos (by omega)]
    have z := loop 20 0 (T0 σ) rfl (by decide) (T0_z (Or.inl rfl)) T0_0 ((T0_f (by decide)).trans h17) (fun i hi => by rw [put20_lt (by omega)]; exact hb i (by omega))
    rw [nI_0] at z
    exact z
  · rw [h17, e20] at c
    exact h0 (fun q => c (nI_le q (by decide)))
theorem m_fact {F : Nat} {x y : Int32} (hS : St σ) (hF : F < 2600) (h12 : gI σ 13 12 0 = nI F) (h : post (some (xI (nI F))) (sI (sA (sA σ 26 8 F x) 26 9 F y) 13 12 0 (nI (F + 1)))) : AMet G l M_X12_fact d 0 0 [xR (some (13, 0)), xI x, xI y] σ post := by
  have vi : vp_in (nI F) 2600 := vp_in_nI hF (by decide)
  refine AMet.of rfl (Nat.le_of_ble_eq_true rfl) (vc_X12_fact hS ?_)
  rw [h12, nI_clamp (by omega), nI_1, nI_pred]
  exact ⟨vi, vi, h⟩
def telM (σ : AS) (F T : Nat) (x y : Int32) : AS := sI (sA (sA (sI (T0 σ) 13 13 0 (nI (T + 1))) 26 8 F x) 26 9 F y) 13 12 0 (nI (F + 1))
theorem m_tell {F T : Nat} {x sc : Int32} (hS : St σ) (hN : N ≤ 40) (h1' : gI σ 13 1 0 = nI N) (h12 : gI σ 13 12 0 = nI F) (h13 : gI σ 13 13 0 = nI T) (hT2 : T ≤ 200) (hF : T < 200 → F < 2600)
    (h0 : ¬ ((∃ p, p < N ∧ x = nI p) ∧ (¬ sc < 0 ∧ ¬ 19 < sc) ∧ T < 200) → post (some (xI (-1))) (T0 σ))
    (h1 : ∀ p, p < N → x = nI p → ¬ sc < 0 → ¬ 19 < sc → T < 200 → post (some (xI (nI F))) (telM σ F T x sc)) : AMet G l M_X12_tell (d + 1) 0 0 [xR (some (13, 0)), xI x, xI sc] σ post := by
  refine AMet.of rfl (Nat.le_of_ble_eq_true rfl) (vc_X12_tell (d := d) (m_isPerson hN ((T0_f (by decide)).trans h1') (fun z => ⟨fun _ => h0 (fun q => z q.1), fun q => absurd rfl q⟩) (fun p hp e => ⟨fun q => absurd q (by decide), fun _ => m_within (fun w => ⟨fun _ => h0 (fun q => w q.2.1), fun q => absurd rfl q⟩) (fun w => ⟨fun q => absurd q (by decide), fun _ => ⟨fun c => ?_, fun c => ?_⟩⟩)⟩)))
  · have e13 : gI (sI σ 13 0 0 0) 13 13 0 = nI T := (T0_f (by decide)).trans h13
    rw [e13] at c ⊢
    have hT : T < 200 := by
      rcases Nat.lt_or_ge T 200 with q | q
      · exact q
      · have e : T = 200 := by omega
        subst e; exact absurd rfl c
    rw [nI_1]
    refine m_fact (show St (sI (sI σ 13 0 0 0) 13 13 0 (nI (T + 1))) from hS) (hF hT) ?_ (h1 p hp e w.1 w.2 hT)
    rw [gI_o (by decide)]; exact (T0_f (by decide)).trans h12
  · have e13 : gI (sI σ 13 0 0 0) 13 13 0 = nI T := (T0_f (by decide)).trans h13
    rw [e13] at c
    have := (nI_eq (b := 200) (by omega) (by decide)).mp c
    exact h0 (fun q => by omega)
theorem m_seen {F : Nat} {x sc y : Int32} (hS : St σ) (hN : N ≤ 40) (h1' : gI σ 13 1 0 = nI N) (h12 : gI σ 13 12 0 = nI F) (hF : F ≤ 2600)
    (h0 : ¬ ((∃ p, p < N ∧ x = nI p) ∧ (¬ sc < 0 ∧ ¬ 19 < sc) ∧ ∃ k, k ≤ F ∧ y = nI k) → post (some (xI 0)) (sI σ 13 0 0 1))
    (h1 : ∀ p k, p < N → x = nI p → ¬ sc < 0 → ¬ 19 < sc → k ≤ F → y = nI k → post (some (xI (nI (timN (fun i => gA σ 26 8 i) (fun i => gA σ 26 9 i) x sc k)))) (T0 σ)) : AMet G l M_X12_seen (d + 1) 0 0 [xR (some (13, 0)), xI x, xI sc, xI y] σ post := by
  refine AMet.of rfl (Nat.le_of_ble_eq_true rfl) (vc_X12_seen (d := d) (m_isPerson hN h1' (fun z => ⟨fun _ => h0 (fun q => z q.1), fun q => absurd rfl q⟩) (fun p hp e => ⟨fun q => absurd q (by decide), fun _ => m_within (fun w => ⟨fun _ => h0 (fun q => w q.2.1), fun q => absurd rfl q⟩) (fun w => ⟨fun q => absurd q (by decide), fun _ => m_within (fun w2 => ⟨fun _ => h0 (fun q => w2 ?_), fun q => absurd rfl q⟩) (fun w2 => ⟨fun q => absurd q (by decide), fun _ => ?_⟩)⟩)⟩)))
  · obtain ⟨-, -, k, hk, ek⟩ := q
    subst ek
    rw [h12]
    exact ⟨nI_pos (by omega), Int32.not_lt.mpr (nI_le hk (by omega))⟩
  · obtain ⟨k, hk, ek⟩ := nI_of w2.1
    have hk' : k ≤ F := by
      have := Int32.not_lt.mp w2.2
      rw [h12, ek] at this
      exact (nI_leI hk (by omega)).mp this
    rw [ek]
    exact m_times (show St (sI σ 13 0 0 0) from hS) (by omega) (h1 p k hp e w.1 w.2 hk' ek)
theorem m_retake {F D : Nat} {sc mi day : Int32} {g : Nat → Nat → Int32} (hS : St σ) (hN : N ≤ 40) (h1' : gI σ 13 1 0 = nI N) (h12 : gI σ 13 12 0 = nI F) (hF : F ≤ 2600) (h2 : gI σ 13 2 0 = day)
    (hg : ∀ p, p < N → (∀ v, v < 20 → ((0 < timN (fun i => gA σ 26 8 i) (fun i => gA σ 26 9 i) (nI p) (nI v) F) ↔ jb (g p 9) (nI v) = true)) ∧ (gA σ 21 0 p = 0 ↔ g p 6 = 0) ∧ gA σ 26 6 p = g p 8)
    (h0 : ¬ ((¬ sc < 0 ∧ ¬ 19 < sc) ∧ (¬ mi < 0 ∧ ¬ 1439 < mi)) → post (some (xI (-1))) (T0 σ))
    (h1 : (¬ sc < 0 ∧ ¬ 19 < sc) → (¬ mi < 0 ∧ ¬ 1439 < mi) → ∀ σ', MZ False (fun f => f = 0 ∨ f = 67) (fun c a => c = 26 ∧ a = 36) σ σ' → gI σ' 13 0 0 = 0 → gI σ' 13 67 0 = nI (lackL g sc (1440 * day + mi) N).length → (∀ i, i < (lackL g sc (1440 * day + mi) N).length → gA σ' 26 36 i = nI ((lackL g sc (1440 * day + mi) N).getD i 0)) → post (some (xI (nI (lackL g sc (1440 * day + mi) N).length))) σ') : AMet G l M_X12_retake (d + 1) 0 0 [xR (some (13, 0)), xI sc, xI mi] σ post := by
  refine AMet.of rfl (Nat.le_of_ble_eq_true rfl) (vc_X12_retake (d := d) (m_within (fun w => ⟨fun _ => h0 (fun q => w q.1), fun q => absurd rfl q⟩) (fun w => ⟨fun q => absurd q (by decide), fun _ => m_within (fun w2 => ⟨fun q => absurd rfl q, fun _ => h0 (fun q => w2 q.2)⟩) (fun w2 => ⟨fun _ => ?_, fun q => absurd q (by decide)⟩)⟩)))
  obtain ⟨v, hv, ev⟩ : ∃ v, v < 20 ∧ sc = nI v := by
    obtain ⟨v, hv, ev⟩ := nI_of w.1
    have := Int32.not_lt.mp w.2
    rw [ev] at this
    have := (nI_leI (b := 19) hv (by decide)).mp this
    exact ⟨v, by omega, ev⟩
  have loop : ∀ (f k : Nat) (σ1 : AS), N - k = f → k ≤ N → MZ False (fun f => f = 0 ∨ f = 67) (fun c a => c = 26 ∧ a = 36) σ σ1 → gI σ1 13 0 0 = 0 → gI σ1 13 67 0 = nI (lackL g sc (1440 * day + mi) k).length → (∀ i, i < (lackL g sc (1440 * day + mi) k).length → gA σ1 26 36 i = nI ((lackL g sc (1440 * day + mi) k).getD i 0)) → AW G l M_X12_retake (d + 1) post σ1 0 0 35 [some (xR (some (13, 0))), some (xI sc), some (xI mi), some (xI (nI k))] [] := by
    intro f
    induction f with
    | zero =>
      intro k σ1 hf hk Z z0 z67 B
      have e : k = N := by omega
      subst e
      have e1 : gI σ1 13 1 0 = nI k := (Z.2.2.2.2.1 1 0 (by omega)).trans h1'
      refine vc_X12_retake_35 (d := d) ⟨fun _ => ?_, fun c => absurd (by rw [e1]; exact nI_le (Nat.le_refl _) (by omega)) c⟩
      rw [z67]
      exact h1 w w2 σ1 Z z0 z67 B
    | succ f ih =>
      intro k σ1 hf hk Z z0 z67 B
      have hkN : k < N := by omega
      obtain ⟨g9, g6, g8⟩ := hg k hkN
      have e1 : gI σ1 13 1 0 = nI N := (Z.2.2.2.2.1 1 0 (by omega)).trans h1'
      have e12 : gI σ1 13 12 0 = nI F := (Z.2.2.2.2.1 12 0 (by omega)).trans h12
      have e2 : gI σ1 13 2 0 = day := (Z.2.2.2.2.1 2 0 (by omega)).trans h2
      have a8 : (fun i => gA σ1 26 8 i) = (fun i => gA σ 26 8 i) := funext (fun i => Z.2.2.2.2.2 26 8 i (by decide) (by omega))
      have a9 : (fun i => gA σ1 26 9 i) = (fun i => gA σ 26 9 i) := funext (fun i => Z.2.2.2.2.2 26 9 i (by decide) (by omega))
      have b0 : gA σ1 21 0 k = gA σ 21 0 k := Z.2.2.2.2.2 21 0 k (by decide) (by omega)
      have b6 : gA σ1 26 6 k = g k 8 := (Z.2.2.2.2.2 26 6 k (by decide) (by omega)).trans g8
      have hl := lackL_le (F := g) (sc := sc) (lim := 1440 * day + mi) k
      have eL : lackL g sc (1440 * day + mi) (k + 1) = lackL g sc (1440 * day + mi) k ++ (if lackB (g k) sc (1440 * day + mi) = true then [k] else []) := rfl
      refine vc_X12_retake_35 (d := d) ⟨fun c => absurd ((nI_leI (a := N) (b := k) (by omega) (by omega)).mp (by rw [e1] at c; exact c)) (by omega), fun _ => ?_⟩
      rw [e12]
      refine m_times (Z.st hS) hF ⟨Z.st hS, fun c => ?_, fun c => ?_⟩
      · -- never there
        rw [nI_1]
        have nj : lackB (g k) sc (1440 * day + mi) = false := by
          rw [a8, a9, ev] at c
          have t0 : timN (fun i => gA σ 26 8 i) (fun i => gA σ 26 9 i) (nI k) (nI v) F = 0 := by
            have := timN_le (P := fun i => gA σ 26 8 i) (S := fun i => gA σ 26 9 i) (p := nI k) (v := nI v) F
            exact (nI_eq (b := 0) (by omega) (by decide)).mp c
          unfold lackB
          rw [ev]
          cases z : jb (g k 9) (nI v)
          · rfl
          · have := (g9 v hv).mpr z; omega
        rw [nj, if_neg (by decide), List.append_nil] at eL
        exact ih (k + 1) σ1 (by omega) (by omega) Z z0 (by rw [eL]; exact z67) (by rw [eL]; exact B)
      · have jt : jb (g k 9) sc = true := by
          rw [a8, a9, ev] at c
          rw [ev]
          refine (g9 v hv).mp ?_
          rcases Nat.eq_zero_or_pos (timN (fun i => gA σ 26 8 i) (fun i => gA σ 26 9 i) (nI k) (nI v) F) with z | z
          · rw [z] at c; exact absurd rfl c
          · exact z
        have vk : vp_in (nI k) 40 := vp_in_nI (by omega) (by decide)
        have yes : lackB (g k) sc (1440 * day + mi) = true → AW G l M_X12_retake (d + 1) post (sI (sA σ1 26 36 (lackL g sc (1440 * day + mi) k).length (nI k)) 13 67 0 (nI ((lackL g sc (1440 * day + mi) k).length + 1))) 0 0 35 [some (xR (some (13, 0))), some (xI sc), some (xI mi), some (xI (nI (k + 1)))] [] := by
          intro y
          rw [y, if_pos rfl] at eL
          refine ih (k + 1) _ (by omega) (by omega) ((Z.setA (by decide) ⟨rfl, rfl⟩).set (Or.inr rfl)) ?_ ?_ (fun i hi => ?_)
          · rw [gI_o (by decide)]; exact z0
          · rw [gI_self, eL]; simp
          · show gA (sA σ1 26 36 _ (nI k)) 26 36 i = _
            rw [eL] at hi ⊢
            by_cases e : i = (lackL g sc (1440 * day + mi) k).length
            · subst e; rw [gA_self]; simp
            · rw [gA_o (fun q => e q.2.2)]
              have hi' : i < (lackL g sc (1440 * day + mi) k).length := by simp at hi; omega
              rw [B i hi']
              simp [List.getD_eq_getElem?_getD, List.getElem?_append_left hi']
        rw [z67, nI_clamp (by omega), nI_clamp (by omega), b0, b6, e2, nI_1, nI_1]
        have vl : vp_in (nI (lackL g sc (1440 * day + mi) k).length) 40 := vp_in_nI (by omega) (by decide)
        refine ⟨vk, fun c3 => ⟨vl, yes ?_⟩, fun c3 => ⟨vk, fun c4 => ⟨vl, yes ?_⟩, fun c4 => ?_⟩⟩
        · unfold lackB; rw [jt, decide_eq_false (fun q => c3 (g6.mpr q))]; rfl
        · unfold lackB; rw [jt, decide_eq_true c4]; simp
        · have nj : lackB (g k) sc (1440 * day + mi) = false := by
            unfold lackB; rw [jt, decide_eq_true (g6.mp c3), decide_eq_false c4]; rfl
          rw [nj, if_neg (by decide), List.append_nil] at eL
          exact ih (k + 1) σ1 (by omega) (by omega) Z z0 (by rw [eL]; exact z67) (by rw [eL]; exact B)
  have z := loop N 0 (sI (T0 σ) 13 67 0 0) rfl (Nat.zero_le _) ((T0_z (Or.inl rfl)).set (Or.inr rfl)) (by rw [gI_o (by decide)]; exact T0_0) gI_self (fun i hi => absurd hi (Nat.not_lt_zero i))
  rw [nI_0] at z
  exact z
end MOPS3
