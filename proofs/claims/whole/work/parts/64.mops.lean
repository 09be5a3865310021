/-! Small methods of the model. -/
section MOPS
variable {G : GG} {l : Launch} {d : Nat} {post : Option AVal → AS → Prop} {σ : AS} {kk nn : Nat} {N : Nat}
def T0 (σ : AS) : AS := sI σ 13 0 0 0
theorem T0_f {f i : Nat} (h : f ≠ 0) : gI (T0 σ) 13 f i = gI σ 13 f i := gI_o (fun e => h e.2.1)
theorem T0_0 : gI (T0 σ) 13 0 0 = 0 := gI_self
theorem T0_z {R : Prop} {P : Nat → Prop} {Q : Nat → Nat → Prop} (h : P 0) : MZ R P Q σ (T0 σ) := MZ.rf.set h
theorem nle40 {p : Nat} (hN : N ≤ 40) (hp : p < N) : vp_in (nI p) 40 := vp_in_nI (by omega) (by decide)
theorem m_person {a b c e f : Int32} (hS : St σ) (hN : N ≤ 40) (h1' : gI σ 13 1 0 = nI N)
    (h0 : ¬ (okP a b c e f ∧ N < 40) → post (some (xI (-1))) (T0 σ))
    (h1 : okP a b c e f → N < 40 → ∀ σ', MZ False (fun f => f = 0 ∨ f = 1) (fun c a => c = 26 ∧ (a ≤ 4 ∨ a = 7)) σ σ' → (∀ a j, j ≠ N → gA σ' 26 a j = gA σ 26 a j) → gI σ' 13 0 0 = 0 → gI σ' 13 1 0 = nI (N + 1) → gA σ' 26 0 N = a → gA σ' 26 1 N = b → gA σ' 26 2 N = c → gA σ' 26 3 N = e → gA σ' 26 4 N = f → gA σ' 26 7 N = -1 → post (some (xI (nI N))) σ') : AMet G l M_X12_person (d + 1) 0 0 [xR (some (13, 0)), xI a, xI b, xI c, xI e, xI f] σ post := by
  refine AMet.of rfl (Nat.le_of_ble_eq_true rfl) (vc_X12_person (d := d) ⟨fun z => ?_, fun z => ?_⟩)
  · rw [h1'] at z
    exact h0 (fun q => by have := (nI_eq (b := 40) (by omega) (by decide)).mp z; omega)
  · have hN' : N < 40 := by
      rw [h1'] at z
      rcases Nat.lt_or_ge N 40 with q | q
      · exact q
      · have e : N = 40 := by omega
        subst e; exact absurd rfl z
    refine m_within (fun w => ⟨fun _ => h0 (fun q => w q.1.1), fun q => absurd rfl q⟩) (fun w1 => ⟨fun q => absurd q (by decide), fun _ => m_within (fun w => ⟨fun _ => h0 (fun q => w q.1.2.1), fun q => absurd rfl q⟩) (fun w2 => ⟨fun q => absurd q (by decide), fun _ => m_within (fun w => ⟨fun _ => h0 (fun q => w q.1.2.2.1), fun q => absurd rfl q⟩) (fun w3 => ⟨fun q => absurd q (by decide), fun _ => m_within (fun w => ⟨fun _ => h0 (fun q => w q.1.2.2.2.1), fun q => absurd rfl q⟩) (fun w4 => ⟨fun q => absurd q (by decide), fun _ => m_within (fun w => ⟨hS, fun q => absurd rfl q, fun _ => h0 (fun q => w q.1.2.2.2.2)⟩) (fun w5 => ⟨hS, fun _ => ?_, fun q => absurd q (by decide)⟩)⟩)⟩)⟩)⟩)
    have e1 : gI (sI σ 13 0 0 0) 13 1 0 = nI N := (T0_f (by decide)).trans h1'
    have vN : vp_in (nI N) 40 := vp_in_nI hN' (by decide)
    rw [e1, nI_clamp (by omega), nI_1, nI_pred]
    refine ⟨vN, vN, vN, vN, vN, vN, h1 ⟨w1, w2, w3, w4, w5⟩ hN' _ (((((((MZ.rf.set (Or.inl rfl)).setA (by decide) ⟨rfl, by decide⟩).setA (by decide) ⟨rfl, by decide⟩).setA (by decide) ⟨rfl, by decide⟩).setA (by decide) ⟨rfl, by decide⟩).setA (by decide) ⟨rfl, by decide⟩).setA (by decide) ⟨rfl, by decide⟩ |>.set (Or.inr rfl)) (fun a' j hj => ?_) ?_ gI_self ?_ ?_ ?_ ?_ ?_ ?_⟩
    · exact (gA_o (fun q => hj q.2.2)).trans ((gA_o (fun q => hj q.2.2)).trans ((gA_o (fun q => hj q.2.2)).trans ((gA_o (fun q => hj q.2.2)).trans ((gA_o (fun q => hj q.2.2)).trans (gA_o (fun q => hj q.2.2))))))
    · rw [gI_o (by decide)]; exact T0_0 (σ := σ)
    · exact (gA_o (by omega)).trans ((gA_o (by omega)).trans ((gA_o (by omega)).trans ((gA_o (by omega)).trans ((gA_o (by omega)).trans gA_self))))
    · exact (gA_o (by omega)).trans ((gA_o (by omega)).trans ((gA_o (by omega)).trans ((gA_o (by omega)).trans gA_self)))
    · exact (gA_o (by omega)).trans ((gA_o (by omega)).trans ((gA_o (by omega)).trans gA_self))
    · exact (gA_o (by omega)).trans ((gA_o (by omega)).trans gA_self)
    · exact (gA_o (by omega)).trans gA_self
    · exact gA_self
theorem m_away {x is : Int32} (hS : St σ) (hN : N ≤ 40) (h1' : gI σ 13 1 0 = nI N) (his : is = 0 ∨ is = 1)
    (h0 : (∀ p, p < N → x = nI p → gA σ 26 7 p ≠ -1) → post (some (xI 0)) (T0 σ)) (h1 : ∀ p, p < N → x = nI p → gA σ 26 7 p = -1 → post (some (xI 1)) (sA (T0 σ) 21 0 p is)) : AMet G l M_X12_away (d + 1) 0 0 [xR (some (13, 0)), xI x, xI is] σ post := by
  refine AMet.of rfl (Nat.le_of_ble_eq_true rfl) (vc_X12_away (d := d) (m_isPerson hN ((T0_f (by decide)).trans h1') (fun z => ⟨hS, fun _ => h0 (fun p hp e => absurd ⟨p, hp, e⟩ z), fun q => absurd rfl q⟩) (fun p hp e => ⟨hS, fun q => absurd q (by decide), fun _ => ?_⟩)))
  subst e
  rw [nI_clamp (by omega)]
  have en : vp_nar .boolean is = is := by rcases his with rfl | rfl <;> decide +kernel
  rw [en]
  refine ⟨nle40 hN hp, fun c => ⟨nle40 hN hp, h1 p hp rfl c⟩, fun c => h0 (fun q hq e => ?_)⟩
  have := (nI_eq (by omega) (by omega)).mp e
  subst this
  exact c
theorem m_about {x w : Int32} {g : Nat → Nat → Int32} (hS : St σ) (hN : N ≤ 40) (h1' : gI σ 13 1 0 = nI N) (hg : ∀ p, p < N → (∀ f, 1 ≤ f → f ≤ 5 → gA σ 26 (f - 1) p = g p f) ∧ bZ (gA σ 21 0 p) = bZ (g p 6) ∧ gA σ 26 5 p = g p 7 ∧ gA σ 26 6 p = g p 8)
    (h0 : (∀ p, p < N → ¬ x = nI p) → post (some (xI (-1))) (T0 σ)) (h1 : ∀ p, p < N → x = nI p → post (some (xI (ansP (g p) w))) (T0 σ)) : AMet G l M_X12_about (d + 1) 0 0 [xR (some (13, 0)), xI x, xI w] σ post := by
  refine AMet.of rfl (Nat.le_of_ble_eq_true rfl) (vc_X12_about (d := d) (m_isPerson hN ((T0_f (by decide)).trans h1') (fun z => ⟨hS, fun q => absurd rfl q, fun _ => h0 (fun p hp e => z ⟨p, hp, e⟩)⟩) (fun p hp e => ⟨hS, fun _ => ?_, fun q => absurd q (by decide)⟩)))
  have h := h1 p hp e
  subst e
  have vp := nle40 hN hp
  obtain ⟨g1, g6, g7, g8⟩ := hg p hp
  rw [nI_clamp (by omega)]
  refine ⟨fun c => ⟨vp, ?_⟩, fun c => ⟨vp, ?_⟩, fun c => ⟨vp, ?_⟩, fun c => ⟨vp, ?_⟩, fun c => ⟨vp, ?_⟩, fun c => ⟨vp, fun z => ?_, fun z => ?_⟩, fun c => ⟨vp, ?_⟩, fun c => ⟨vp, ?_⟩, fun c => ?_⟩
  · subst c; have e := g1 1 (by decide) (by decide); rw [show ansP (g p) 0 = g p 1 from rfl, ← e] at h; exact h
  · subst c; have e := g1 2 (by decide) (by decide); rw [show ansP (g p) 1 = g p 2 from rfl, ← e] at h; exact h
  · subst c; have e := g1 3 (by decide) (by decide); rw [show ansP (g p) 2 = g p 3 from rfl, ← e] at h; exact h
  · subst c; have e := g1 4 (by decide) (by decide); rw [show ansP (g p) 3 = g p 4 from rfl, ← e] at h; exact h
  · subst c; have e := g1 5 (by decide) (by decide); rw [show ansP (g p) 4 = g p 5 from rfl, ← e] at h; exact h
  · subst c; rw [show ansP (g p) 5 = bZ (g p 6) from rfl, ← g6, bZ, if_pos (show gA σ 21 0 p = 0 from z)] at h; exact h
  · subst c; rw [show ansP (g p) 5 = bZ (g p 6) from rfl, ← g6, bZ, if_neg (show ¬ gA σ 21 0 p = 0 from z)] at h; exact h
  · subst c; rw [show ansP (g p) 6 = g p 7 from rfl, ← g7] at h; exact h
  · subst c; rw [show ansP (g p) 7 = g p 8 from rfl, ← g8] at h; exact h
  · have n : ∀ k : Int32, (0 ≤ k.toInt ∧ k.toInt ≤ 7) → ¬ w = k := fun k hk e => by subst e; omega
    rw [ansP, if_neg (n 0 (by decide)), if_neg (n 1 (by decide)), if_neg (n 2 (by decide)), if_neg (n 3 (by decide)), if_neg (n 4 (by decide)), if_neg (n 5 (by decide)), if_neg (n 6 (by decide)), if_neg (n 7 (by decide))] at h
    exact h
theorem m_place (h : post (some (xI (gI σ 13 26 0))) (T0 σ)) : AMet G l M_X12_place d 0 0 [xR (some (13, 0))] σ post :=
  AMet.of rfl (Nat.le_of_ble_eq_true rfl) (vc_X12_place h)
theorem m_end {n : Nat} {x : Int32} (hn : n ≤ 1000) (h17 : gI σ 13 17 0 = nI n) (h0 : (∀ k, k ≤ n → ¬ x = nI k) → post (some (xI (-1))) (T0 σ)) (h1 : ∀ k, k ≤ n → x = nI k → post (some (xI x)) (sI (T0 σ) 13 17 0 x)) : AMet G l M_X12_end d 0 0 [xR (some (13, 0)), xI x] σ post := by
  refine AMet.of rfl (Nat.le_of_ble_eq_true rfl) (vc_X12_end ⟨fun c => h0 (fun k hk e => ?_), fun c => ⟨fun c2 => ?_, fun c2 => h0 (fun k hk e => ?_)⟩⟩)
  · subst e; exact absurd c (nI_pos (by omega))
  · obtain ⟨k, hk, e⟩ := nI_of c
    have c3 := c2
    rw [h17, e] at c3
    exact h1 k ((nI_leI hk (by omega)).mp c3) e
  · subst e; rw [h17] at c2; exact absurd (nI_le hk (by omega)) c2
theorem m_moved {n : Nat} {b : Nat → Int32} {x : Int32} (hS : St σ) (hn : n ≤ 40) (h48 : gI σ 13 48 0 = nI n) (hb : ∀ k, k < n → gA σ 26 22 k = b k) (h0 : (∀ k, k < n → ¬ x = nI k) → post (some (xI (-1))) (T0 σ)) (h1 : ∀ k, k < n → x = nI k → post (some (xI (b k))) (T0 σ)) : AMet G l M_X12_moved d 0 0 [xR (some (13, 0)), xI x] σ post := by
  refine AMet.of rfl (Nat.le_of_ble_eq_true rfl) (vc_X12_moved hS ⟨fun c => h0 (fun k hk e => ?_), fun c => ⟨fun c2 => h0 (fun k hk e => ?_), fun c2 => ?_⟩⟩)
  · subst e; exact absurd c (nI_pos (by omega))
  · subst e; rw [h48] at c2; exact absurd ((nI_leI (by omega) (by omega)).mp c2) (by omega)
  · obtain ⟨k, hk, e⟩ := nI_of c
    rw [h48, e] at c2
    have hk' : k < n := by
      rcases Nat.lt_or_ge k n with q | q
      · exact q
      · exact absurd (nI_le q hk) c2
    have h := h1 k hk' e
    subst e
    rw [← hb k hk'] at h
    rw [nI_clamp hk]
    exact ⟨vp_in_nI (by omega) (by decide), h⟩
theorem m_lacks {n : Nat} {b : Nat → Int32} {x : Int32} (hS : St σ) (hn : n ≤ 40) (h67 : gI σ 13 67 0 = nI n) (hb : ∀ k, k < n → gA σ 26 36 k = b k) (h0 : (∀ k, k < n → ¬ x = nI k) → post (some (xI (-1))) (T0 σ)) (h1 : ∀ k, k < n → x = nI k → post (some (xI (b k))) (T0 σ)) : AMet G l M_X12_lacks d 0 0 [xR (some (13, 0)), xI x] σ post := by
  refine AMet.of rfl (Nat.le_of_ble_eq_true rfl) (vc_X12_lacks hS ⟨fun c => h0 (fun k hk e => ?_), fun c => ⟨fun c2 => h0 (fun k hk e => ?_), fun c2 => ?_⟩⟩)
  · subst e; exact absurd c (nI_pos (by omega))
  · subst e; rw [h67] at c2; exact absurd ((nI_leI (by omega) (by omega)).mp c2) (by omega)
  · obtain ⟨k, hk, e⟩ := nI_of c
    rw [h67, e] at c2
    have hk' : k < n := by
      rcases Nat.lt_or_ge k n with q | q
      · exact q
      · exact absurd (nI_le q hk) c2
    have h := h1 k hk' e
    subst e
    rw [← hb k hk'] at h
    rw [nI_clamp hk]
    exact ⟨vp_in_nI (by omega) (by decide), h⟩
theorem rI_a {asg : Nat → Option Nat} {p a K : Nat} (hK : K ≤ 6) (h : ∀ a, asg p = some a → a < K) (ha : a < K) : rI (asg p) = nI a ↔ asg p = some a := by
  cases e : asg p with
  | none => exact ⟨fun q => absurd q.symm (fun z => absurd (show nI a < 0 by rw [z]; decide) (nI_pos (by omega))), fun q => absurd q (by simp)⟩
  | some a' =>
    have := h a' e
    exact ⟨fun q => by rw [(nI_eq (by omega) (by omega)).mp q], fun q => by cases q; rfl⟩
theorem rI_n {asg : Nat → Option Nat} {p K : Nat} (hK : K ≤ 6) (h : ∀ a, asg p = some a → a < K) : rI (asg p) = -1 ↔ asg p = none := by
  cases e : asg p with
  | none => exact ⟨fun _ => rfl, fun _ => rfl⟩
  | some a' =>
    have := h a' e
    refine ⟨fun q => ?_, fun q => absurd q (by simp)⟩
    have q : nI a' = -1 := q
    exact absurd (show nI a' < 0 by rw [q]; decide) (nI_pos (by omega))
/-- the model keeps who is in what -/
def CalM (σ : AS) (N K : Nat) (asg : Nat → Option Nat) : Prop := (∀ p, p < N → gA σ 26 7 p = rI (asg p)) ∧ (∀ p, p < N → ∀ a, asg p = some a → a < K) ∧ K ≤ 6 ∧ N ≤ 40 ∧ gI σ 13 1 0 = nI N
theorem m_calledIn {K a : Nat} {asg : Nat → Option Nat} (hS : St σ) (hC : CalM σ N K asg) (ha : a < K) (h : post (some (xI (nI (cA asg a N)))) σ) : AMet G l M_X12_calledIn d 0 0 [xR (some (13, 0)), xI (nI a)] σ post := by
  obtain ⟨c1, c2, hK, hN, h1⟩ := hC
  have loop : ∀ (f k : Nat), N - k = f → k ≤ N → AW G l M_X12_calledIn d post σ 0 0 4 [some (xR (some (13, 0))), some (xI (nI a)), some (xI (nI (cA asg a k))), some (xI (nI k))] [] := by
    intro f
    induction f with
    | zero =>
      intro k hf hk
      have e : k = N := by omega
      subst e
      exact vc_X12_calledIn_4 hS ⟨fun _ => h, fun c => absurd (by rw [h1]; exact nI_le (Nat.le_refl _) (by omega)) c⟩
    | succ f ih =>
      intro k hf hk
      refine vc_X12_calledIn_4 hS ⟨fun c => absurd ((nI_leI (a := N) (b := k) (by omega) (by omega)).mp (by rw [h1] at c; exact c)) (by omega), fun _ => ⟨vp_in_nI (by omega) (by decide), ?_⟩⟩
      have z := ih (k + 1) (by omega) (by omega)
      rw [nI_clamp (by omega), c1 k (by omega), nI_1, nI_1]
      rw [cA] at z
      refine ⟨fun c => ?_, fun c => ?_⟩
      · rw [if_neg (fun q => c ((rI_a hK (c2 k (by omega)) ha).mpr q))] at z; exact z
      · rw [if_pos ((rI_a hK (c2 k (by omega)) ha).mp c)] at z; exact z
  refine AMet.of rfl (Nat.le_of_ble_eq_true rfl) (vc_X12_calledIn ?_)
  have z := loop N 0 rfl (Nat.zero_le _)
  rw [show cA asg a 0 = 0 from rfl, nI_0] at z
  exact z
theorem m_ask {K : Nat} {asg : Nat → Option Nat} {x w : Int32} {g : Nat → Nat → Int32} (hS : St σ) (hC : CalM σ N K asg) (h29 : gI σ 13 29 0 = nI K) (hg : ∀ a, a < K → gA σ 26 10 a = g a 1 ∧ gA σ 26 11 a = g a 2 ∧ gA σ 26 12 a = g a 3 ∧ gA σ 26 13 a = g a 4 ∧ nI (cA asg a N) = g a 6)
    (h0 : (∀ a, a < K → ¬ x = nI a) → post (some (xI (-1))) (T0 σ)) (h1 : ∀ a, a < K → x = nI a → post (some (xI (ansA (g a) w))) (T0 σ)) : AMet G l M_X12_ask (d + 1) 0 0 [xR (some (13, 0)), xI x, xI w] σ post := by
  have hK := hC.2.2.1
  refine AMet.of rfl (Nat.le_of_ble_eq_true rfl) (vc_X12_ask (d := d) (m_isAsk hK ((T0_f (by decide)).trans h29) (fun z => ⟨hS, fun q => absurd rfl q, fun _ => h0 (fun p hp e => z ⟨p, hp, e⟩)⟩) (fun a ha e => ⟨hS, fun _ => ?_, fun q => absurd q (by decide)⟩)))
  have h := h1 a ha e
  subst e
  have va : vp_in (nI a) 6 := vp_in_nI (by omega) (by decide)
  obtain ⟨g1, g2, g3, g4, g6⟩ := hg a ha
  rw [nI_clamp (by omega)]
  refine ⟨fun c => ⟨va, ?_⟩, fun c => ⟨va, ?_⟩, fun c => ⟨va, ?_⟩, fun c => ⟨va, ?_⟩, fun c => ?_, fun c => ?_⟩
  · subst c; rw [show ansA (g a) 0 = g a 1 from rfl, ← g1] at h; exact h
  · subst c; rw [show ansA (g a) 1 = g a 2 from rfl, ← g2] at h; exact h
  · subst c; rw [show ansA (g a) 2 = g a 3 from rfl, ← g3] at h; exact h
  · subst c; rw [show ansA (g a) 3 = g a 4 from rfl, ← g4] at h; exact h
  · subst c
    rw [show ansA (g a) 4 = g a 6 from rfl, ← g6] at h
    refine m_calledIn (σ := T0 σ) hS ⟨hC.1, hC.2.1, hC.2.2.1, hC.2.2.2.1, (T0_f (by decide)).trans hC.2.2.2.2⟩ ha h
  · have n : ∀ k : Int32, (0 ≤ k.toInt ∧ k.toInt ≤ 4) → ¬ w = k := fun k hk e => by subst e; omega
    rw [ansA, if_neg (n 0 (by decide)), if_neg (n 1 (by decide)), if_neg (n 2 (by decide)), if_neg (n 3 (by decide)), if_neg (n 4 (by decide))] at h
    exact h
theorem m_called {K : Nat} {asg : Nat → Option Nat} {x : Int32} (hS : St σ) (hC : CalM σ N K asg) (h0 : (∀ p, p < N → ¬ x = nI p) → post (some (xI (-1))) (T0 σ)) (h1 : ∀ p, p < N → x = nI p → post (some (xI (rI (asg p)))) (T0 σ)) : AMet G l M_X12_called (d + 1) 0 0 [xR (some (13, 0)), xI x] σ post := by
  obtain ⟨c1, c2, hK, hN, h1'⟩ := hC
  refine AMet.of rfl (Nat.le_of_ble_eq_true rfl) (vc_X12_called (d := d) (m_isPerson hN ((T0_f (by decide)).trans h1') (fun z => ⟨hS, fun _ => h0 (fun p hp e => z ⟨p, hp, e⟩), fun q => absurd rfl q⟩) (fun p hp e => ⟨hS, fun q => absurd q (by decide), fun _ => ?_⟩)))
  have h := h1 p hp e
  subst e
  rw [← c1 p hp] at h
  rw [nI_clamp (by omega)]
  exact ⟨nle40 hN hp, h⟩
theorem m_buses {K : Nat} {asg : Nat → Option Nat} {home : Nat → Int32} {x y : Int32} (hS : St σ) (hC : CalM σ N K asg) (hh : ∀ p, p < N → gA σ 26 3 p = home p) (h0 : ¬ ((¬ x < 0 ∧ ¬ 3 < x) ∧ (¬ y < 1 ∧ ¬ 100 < y)) → post (some (xI (-1))) (T0 σ)) (h1 : (¬ x < 0 ∧ ¬ 3 < x) → (¬ y < 1 ∧ ¬ 100 < y) → post (some (xI ((nI (ridN asg home x N) + y - 1) / y))) (T0 σ)) : AMet G l M_X12_buses (d + 1) 0 0 [xR (some (13, 0)), xI x, xI y] σ post := by
  obtain ⟨c1, c2, hK, hN, h1'⟩ := hC
  refine AMet.of rfl (Nat.le_of_ble_eq_true rfl) (vc_X12_buses (d := d) (m_within (fun w => ⟨fun _ => h0 (fun q => w q.1), fun q => absurd rfl q⟩) (fun w1 => ⟨fun q => absurd q (by decide), fun _ => m_within (fun w => ⟨fun q => absurd rfl q, fun _ => h0 (fun q => w q.2)⟩) (fun w2 => ⟨fun _ => ?_, fun q => absurd q (by decide)⟩)⟩)))
  have hp := h1 w1 w2
  have y0 : ¬ y = 0 := fun e => by subst e; exact w2.1 (by decide)
  have e1 : gI (sI σ 13 0 0 0) 13 1 0 = nI N := (T0_f (by decide)).trans h1'
  have loop : ∀ (f k : Nat), N - k = f → k ≤ N → AW G l M_X12_buses (d + 1) post (T0 σ) 0 0 31 [some (xR (some (13, 0))), some (xI x), some (xI y), some (xI (nI (ridN asg home x k))), some (xI (nI k))] [] := by
    intro f
    induction f with
    | zero =>
      intro k hf hk
      have e : k = N := by omega
      subst e
      exact vc_X12_buses_31 (d := d) (show St (T0 σ) from hS) ⟨fun _ => ⟨y0, hp⟩, fun c => absurd (by show gI (sI σ 13 0 0 0) 13 1 0 ≤ _; rw [e1]; exact nI_le (Nat.le_refl _) (by omega)) c⟩
    | succ f ih =>
      intro k hf hk
      refine vc_X12_buses_31 (d := d) (show St (T0 σ) from hS) ⟨fun c => absurd ((nI_leI (a := N) (b := k) (by omega) (by omega)).mp (show nI N ≤ nI k by rw [← e1]; exact c)) (by omega), fun _ => ⟨vp_in_nI (by omega) (by decide), ?_⟩⟩
      have z := ih (k + 1) (by omega) (by omega)
      have e7 : gA (T0 σ) 26 7 k = rI (asg k) := c1 k (by omega)
      have e3 : gA (T0 σ) 26 3 k = home k := hh k (by omega)
      rw [nI_clamp (by omega), e7, e3, nI_1, nI_1]
      rw [ridN] at z
      refine ⟨fun c => ?_, fun c => ⟨vp_in_nI (by omega) (by decide), fun c4 => ?_, fun c4 => ?_⟩⟩
      · rw [if_neg (fun q => q.1 ((rI_n hK (c2 k (by omega))).mp c))] at z; exact z
      · rw [if_neg (fun q => c4 q.2)] at z; exact z
      · rw [if_pos ⟨fun q => c ((rI_n hK (c2 k (by omega))).mpr q), c4⟩] at z; exact z
  have z := loop N 0 rfl (Nat.zero_le _)
  rw [show ridN asg home x 0 = 0 from rfl, nI_0] at z
  exact z
theorem m_allCalled {K : Nat} {asg : Nat → Option Nat} (hS : St σ) (hC : CalM σ N K asg) (h : post (some (xI (nI (cAll asg N)))) σ) : AMet G l M_X12_allCalled d 0 0 [xR (some (13, 0))] σ post := by
  obtain ⟨c1, c2, hK, hN, h1⟩ := hC
  have loop : ∀ (f k : Nat), N - k = f → k ≤ N → AW G l M_X12_allCalled d post σ 0 0 4 [some (xR (some (13, 0))), some (xI (nI (cAll asg k))), some (xI (nI k))] [] := by
    intro f
    induction f with
    | zero =>
      intro k hf hk
      have e : k = N := by omega
      subst e
      exact vc_X12_allCalled_4 hS ⟨fun _ => h, fun c => absurd (by rw [h1]; exact nI_le (Nat.le_refl _) (by omega)) c⟩
    | succ f ih =>
      intro k hf hk
      refine vc_X12_allCalled_4 hS ⟨fun c => absurd ((nI_leI (a := N) (b := k) (by omega) (by omega)).mp (by rw [h1] at c; exact c)) (by omega), fun _ => ⟨vp_in_nI (by omega) (by decide), ?_⟩⟩
      have z := ih (k + 1) (by omega) (by omega)
      rw [nI_clamp (by omega), c1 k (by omega), nI_1, nI_1]
      rw [cAll] at z
      refine ⟨fun c => ?_, fun c => ?_⟩
      · rw [if_pos ((rI_n hK (c2 k (by omega))).mp c)] at z; exact z
      · rw [if_neg (fun q => c ((rI_n hK (c2 k (by omega))).mpr q))] at z; exact z
  refine AMet.of rfl (Nat.le_of_ble_eq_true rfl) (vc_X12_allCalled ?_)
  have z := loop N 0 rfl (Nat.zero_le _)
  rw [show cAll asg 0 = 0 from rfl, nI_0] at z
  exact z
theorem m_count {K : Nat} {asg : Nat → Option Nat} {x : Int32} {g : Nat → Int32} (hS : St σ) (hC : CalM σ N K asg) (g0 : gI σ 13 1 0 = g 0) (g1 : gI σ 13 29 0 = g 1) (g2 : gI σ 13 49 0 = g 2) (g3 : gI σ 13 12 0 = g 3) (g4 : gI σ 13 2 0 = g 4) (g5 : nI (cAll asg N) = g 5) (g6 : gI σ 13 17 0 = g 6) (g7 : gI σ 13 55 0 = g 7) (h : post (some (xI (ansC g x))) (T0 σ)) : AMet G l M_X12_count (d + 1) 0 0 [xR (some (13, 0)), xI x] σ post := by
  refine AMet.of rfl (Nat.le_of_ble_eq_true rfl) (vc_X12_count (d := d) ⟨fun c => ?_, fun c => ?_, fun c => ?_, fun c => ?_, fun c => ?_, fun c => ?_, fun c => ?_, fun c => ?_, fun c => ?_⟩)
  · subst c; rw [show ansC g 0 = g 0 from rfl, ← g0] at h; exact h
  · subst c; rw [show ansC g 1 = g 1 from rfl, ← g1] at h; exact h
  · subst c; rw [show ansC g 2 = g 2 from rfl, ← g2] at h; exact h
  · subst c; rw [show ansC g 3 = g 3 from rfl, ← g3] at h; exact h
  · subst c; rw [show ansC g 4 = g 4 from rfl, ← g4] at h; exact h
  · subst c; rw [show ansC g 5 = g 5 from rfl, ← g5] at h
    exact m_allCalled (σ := T0 σ) hS ⟨hC.1, hC.2.1, hC.2.2.1, hC.2.2.2.1, (T0_f (by decide)).trans hC.2.2.2.2⟩ h
  · subst c; rw [show ansC g 6 = g 6 from rfl, ← g6] at h; exact h
  · subst c; rw [show ansC g 7 = g 7 from rfl, ← g7] at h; exact h
  · have n : ∀ k : Int32, (0 ≤ k.toInt ∧ k.toInt ≤ 7) → ¬ x = k := fun k hk e => by subst e; omega
    rw [ansC, if_neg (n 0 (by decide)), if_neg (n 1 (by decide)), if_neg (n 2 (by decide)), if_neg (n 3 (by decide)), if_neg (n 4 (by decide)), if_neg (n 5 (by decide)), if_neg (n 6 (by decide)), if_neg (n 7 (by decide))] at h
    exact h
end MOPS
