/-! The model's all and either. -/
section MALL
variable {G : GG} {l : Launch} {σ : AS} {n dep j : Nat} {b : Nat → Int32} {rdg : Bool} {g : Nat → Int32}
def orT (o : Bool) : List Int32 := if o = true then [1000000] else []
/-- behind one of and-parts, at token k, the steps so far s: what the whole o0 is -/
def Rest (n : Nat) (b : Nat → Int32) (f dep : Nat) (oW : Bool) (k : Nat) (s : List Int32) (o0 : RR) : Prop := o0 = if isW n b k 11 = true then ((rd n b f false dep (tE n b k) oW true).1, s ++ (rd n b f false dep (tE n b k) oW true).2) else if isW n b k 12 = true then ((rd n b f false dep (tE n b k) true false).1, (s ++ orT oW) ++ (rd n b f false dep (tE n b k) true false).2) else ((0, k), s ++ orT oW)
theorem rd_rest {f i : Nat} {o a : Bool} (z : (rd n b f true dep i false false).1.1 = 0) : Rest n b f dep o (rd n b f true dep i false false).1.2 ((rd n b f true dep i false false).2 ++ (if a = true then [900000] else [])) (rd n b (f + 1) false dep i o a) := by
  unfold Rest
  rw [rd, if_pos z]
  by_cases w1 : isW n b (rd n b f true dep i false false).1.2 11 = true
  · rw [if_pos w1, if_pos w1]
  · rw [if_neg w1, if_neg w1]
    by_cases w2 : isW n b (rd n b f true dep i false false).1.2 12 = true
    · rw [if_pos w2, if_pos w2]
      rfl
    · rw [if_neg w2, if_neg w2]
      exact Prod.ext (Prod.ext z rfl) rfl
theorem Rest.and {f k : Nat} {oW : Bool} {s : List Int32} {o0 : RR} (h : Rest n b (f + 1) dep oW k s o0) (w : isW n b k 11 = true) (z : (rd n b f true dep (tE n b k) false false).1.1 = 0) : Rest n b f dep oW (rd n b f true dep (tE n b k) false false).1.2 (s ++ ((rd n b f true dep (tE n b k) false false).2 ++ [900000])) o0 := by
  have q := rd_rest (o := oW) (a := true) z
  unfold Rest at h q ⊢
  rw [if_pos w, q] at h
  rw [h]
  by_cases w1 : isW n b (rd n b f true dep (tE n b k) false false).1.2 11 = true
  · rw [if_pos w1, if_pos w1]; simp
  · rw [if_neg w1, if_neg w1]
    by_cases w2 : isW n b (rd n b f true dep (tE n b k) false false).1.2 12 = true
    · rw [if_pos w2, if_pos w2]; simp
    · rw [if_neg w2, if_neg w2]; simp
theorem Rest.bad {f k : Nat} {oW : Bool} {s : List Int32} {o0 : RR} (h : Rest n b (f + 1) dep oW k s o0) (w : isW n b k 11 = true) (z : ¬ (rd n b f true dep (tE n b k) false false).1.1 = 0) : o0.1 = (rd n b f true dep (tE n b k) false false).1 := by
  unfold Rest at h
  rw [if_pos w, rd, if_neg z] at h
  rw [h]
/-- behind all: the whole o0 goes on at token k, no and stands there -/
def AllP (rdg : Bool) (g : Nat → Int32) (σ σ' : AS) (n : Nat) (b : Nat → Int32) (F dep : Nat) (oW : Bool) (o0 : RR) (V : Bool) : Prop := MX σ σ' ∧ ((∃ f k s, gI σ' 13 24 0 = 0 ∧ MTok σ' n b k ∧ k ≤ n ∧ 2 * (n - k) + 1 ≤ f ∧ f < F ∧ isW n b k 11 = false ∧ VAL rdg g s V ∧ Rest n b f dep oW k s o0) ∨ (¬ o0.1.1 = 0 ∧ gI σ' 13 24 0 = o0.1.1 ∧ gI σ' 13 25 0 = nI o0.1.2))
theorem m_all {F : Nat} (hOne : ∀ f', f' < F → MOne G l n b j rdg g f') {i : Nat} {oW : Bool} {D : Nat} {post : Option AVal → AS → Prop} (hdep : dep ≤ 8) (hf : 2 * (n - i) + 2 ≤ F) (hi : i ≤ n) (hS : St σ) (hB' : MB σ j n b) (hT : MTok σ n b i) (h0 : gI σ 13 24 0 = 0) (hE : EvF σ rdg g) (hD : 30 ≤ D + 3 * dep)
    (h : ∀ σ' V, AllP rdg g σ σ' n b F dep oW (rd n b F false dep i oW false) V → post (some (xI (bI V))) σ') : AMet G l M_X12_all D 0 0 [xR (some (13, 0)), xI (nI dep)] σ post := by
  obtain ⟨d, rfl⟩ : ∃ d, D = d + 6 := ⟨D - 6, by omega⟩
  generalize ho : rd n b F false dep i oW false = o0 at h
  have bad : ∀ (σ1 : AS) (V : Bool), MX σ σ1 → ¬ o0.1.1 = 0 → gI σ1 13 24 0 = o0.1.1 → gI σ1 13 25 0 = nI o0.1.2 → AW G l M_X12_all (d + 6) post σ1 0 0 6 [some (xR (some (13, 0))), some (xI (nI dep)), some (xI (bI V)), none] [] := fun σ1 V M z f1 f2 => vc_X12_all_6 (d := d + 5) ⟨fun _ => ⟨vb, h σ1 V ⟨M, Or.inr ⟨z, f1, f2⟩⟩⟩, fun c => absurd (f1.symm.trans c) z⟩
  have loop : ∀ (f k : Nat) (s : List Int32) (A : Bool) (σ1 : AS), f < F → MX σ σ1 → MTok σ1 n b k → k ≤ n → 2 * (n - k) + 1 ≤ f → gI σ1 13 24 0 = 0 → VAL rdg g s A → Rest n b f dep oW k s o0 → AW G l M_X12_all (d + 6) post σ1 0 0 6 [some (xR (some (13, 0))), some (xI (nI dep)), some (xI (bI A)), none] [] := by
    intro f
    induction f with
    | zero => intro k s A σ1 _ _ _ _ q; omega
    | succ f ih =>
      intro k s A σ1 hF M T hk hfk z0 hv hR
      have hle := tE_le (b := b) hk
      refine vc_X12_all_6 (d := d + 5) ⟨fun c => absurd z0 c, fun _ => m_isWord (M.mb hB') hk T ⟨fun c => ⟨vb, h σ1 A ⟨M, Or.inl ⟨f + 1, k, s, z0, T, hk, hfk, hF, bI_eq.mp c, hv, hR⟩⟩⟩, fun c => ?_⟩⟩
      have w := bI_ne.mp c
      have hgt := isW_gt hk w
      refine m_next (M.mb hB') hle.2 T.2.1 (fun σ2 M2 T2 => hOne f (by omega) dep (tE n b k) σ2 (d + 5) _ hdep (by omega) hle.2 ((M.tr M2.mq).st hS) ((M.tr M2.mq).mb hB') T2 ((M2.2.2.2.2 24 0 (by omega)).trans z0) (hE.keep (M.tr M2.mq)) (by omega) (fun σ3 U A3 => ?_))
      have wk : AW G l M_X12_all (d + 6) post σ3 0 0 6 [some (xR (some (13, 0))), some (xI (nI dep)), some (xI (bI (A && U))), none] [] := by
        rcases A3 with ⟨F3, ⟨z, T3, f0, v⟩ | ⟨z, f1, f2⟩⟩
        · have q := (rd_ok n b f).1 dep _ false false hle.2 z
          refine ih _ _ (A && U) σ3 (by omega) ((M.tr M2.mq).tr F3) T3 q.2 (by omega) f0 ?_ (hR.and w z)
          rcases hv with r | hv
          · exact Or.inl r
          · rcases v with r | v
            · exact Or.inl r
            · refine Or.inr (fun stk => ?_)
              rw [runB_app, runB_app, hv stk, v _, run_and]
        · have q := hR.bad w z
          exact bad σ3 (A && U) ((M.tr M2.mq).tr F3) (by rw [q]; exact z) (by rw [q]; exact f1) (by rw [q]; exact f2)
      cases A
      · exact ⟨fun _ => wk, fun c => absurd rfl c⟩
      · cases U
        · exact ⟨fun c => absurd c (by decide), fun _ => ⟨fun _ => wk, fun c => absurd rfl c⟩⟩
        · exact ⟨fun c => absurd c (by decide), fun _ => ⟨fun c => absurd c (by decide), fun _ => wk⟩⟩
  obtain ⟨f, rfl⟩ : ∃ f, F = f + 1 := ⟨F - 1, by omega⟩
  refine AMet.of rfl (Nat.le_of_ble_eq_true rfl) (vc_X12_all (d := d + 5) (hOne f (by omega) dep i σ (d + 5) _ hdep (by omega) hi hS hB' hT h0 hE (by omega) (fun σ1 V A => ?_)))
  rcases A with ⟨F1, ⟨z, T1, f0, v⟩ | ⟨z, f1, f2⟩⟩
  · have q := (rd_ok n b f).1 dep _ false false hi z
    have r := rd_rest (dep := dep) (o := oW) (a := false) z
    rw [ho, if_neg (by decide), List.append_nil] at r
    exact loop f _ _ V σ1 (by omega) F1 T1 q.2 (by omega) f0 v r
  · have e : o0 = ((rd n b f true dep i false false).1, []) := by rw [← ho, rd, if_neg z]
    exact bad σ1 V F1 (by rw [e]; exact z) (by rw [e]; exact f1) (by rw [e]; exact f2)
/-- behind all of or-parts, at token k, the steps so far t: what the whole o0 is -/
def Rest2 (n : Nat) (b : Nat → Int32) (f dep k : Nat) (t : List Int32) (o0 : RR) : Prop := o0 = if isW n b k 12 = true then ((rd n b f false dep (tE n b k) true false).1, t ++ (rd n b f false dep (tE n b k) true false).2) else ((0, k), t)
theorem Rest.two {f k : Nat} {oW : Bool} {s : List Int32} {o0 : RR} (h : Rest n b f dep oW k s o0) (w : isW n b k 11 = false) : Rest2 n b f dep k (s ++ orT oW) o0 := by
  unfold Rest at h
  rw [if_neg (by rw [w]; decide)] at h
  exact h
theorem Rest2.or {f k f' k' : Nat} {t s : List Int32} {o0 : RR} (h : Rest2 n b f dep k t o0) (w : isW n b k 12 = true) (q : Rest2 n b f' dep k' s (rd n b f false dep (tE n b k) true false)) : Rest2 n b f' dep k' (t ++ s) o0 := by
  unfold Rest2 at h q ⊢
  rw [if_pos w, q] at h
  rw [h]
  by_cases w2 : isW n b k' 12 = true
  · rw [if_pos w2, if_pos w2]; simp
  · rw [if_neg w2, if_neg w2]
theorem m_any {F : Nat} (hOne : ∀ f', f' < F → MOne G l n b j rdg g f') : MAny G l n b j rdg g F := by
  intro dep i σ D post hdep hf hi hS hB' hT h0 hE hD h
  obtain ⟨d, rfl⟩ : ∃ d, D = d + 7 := ⟨D - 7, by omega⟩
  generalize ho : rd n b F false dep i false false = o0 at h
  have bad : ∀ (σ1 : AS) (V : Bool), MX σ σ1 → ¬ o0.1.1 = 0 → gI σ1 13 24 0 = o0.1.1 → gI σ1 13 25 0 = nI o0.1.2 → AW G l M_X12_either (d + 7) post σ1 0 0 6 [some (xR (some (13, 0))), some (xI (nI dep)), some (xI (bI V)), none] [] := fun σ1 V M z f1 f2 => vc_X12_either_6 (d := d + 6) ⟨fun _ => ⟨vb, h σ1 V ⟨M, Or.inr ⟨z, f1, f2⟩⟩⟩, fun c => absurd (f1.symm.trans c) z⟩
  have loop : ∀ (N f k : Nat) (t : List Int32) (A : Bool) (σ1 : AS), f ≤ N → f < F → MX σ σ1 → MTok σ1 n b k → k ≤ n → 2 * (n - k) + 1 ≤ f → gI σ1 13 24 0 = 0 → VAL rdg g t A → Rest2 n b f dep k t o0 → AW G l M_X12_either (d + 7) post σ1 0 0 6 [some (xR (some (13, 0))), some (xI (nI dep)), some (xI (bI A)), none] [] := by
    intro N
    induction N with
    | zero => intro f k s A σ1 hN _ _ _ _ q; omega
    | succ N ih =>
      intro f k t A σ1 hN hF M T hk hfk z0 hv hR
      have hle := tE_le (b := b) hk
      refine vc_X12_either_6 (d := d + 6) ⟨fun c => absurd z0 c, fun _ => m_isWord (M.mb hB') hk T ⟨fun c => ⟨vb, h σ1 A ⟨M, Or.inl ?_⟩⟩, fun c => ?_⟩⟩
      · unfold Rest2 at hR
        rw [if_neg (by rw [bI_eq.mp c]; decide)] at hR
        rw [hR]
        exact ⟨rfl, T, z0, hv⟩
      have w := bI_ne.mp c
      have hgt := isW_gt hk w
      refine m_next (M.mb hB') hle.2 T.2.1 (fun σ2 M2 T2 => m_all (F := f) (oW := true) (fun f' hf' => hOne f' (by omega)) hdep (by omega) hle.2 ((M.tr M2.mq).st hS) ((M.tr M2.mq).mb hB') T2 ((M2.2.2.2.2 24 0 (by omega)).trans z0) (hE.keep (M.tr M2.mq)) (by omega) (fun σ3 U A3 => ?_))
      have wk : AW G l M_X12_either (d + 7) post σ3 0 0 6 [some (xR (some (13, 0))), some (xI (nI dep)), some (xI (bI (A || U))), none] [] := by
        rcases A3 with ⟨F3, ⟨f', k', s, f0, T3, hk', hfk', hff, w1, v, r⟩ | ⟨z, f1, f2⟩⟩
        · refine ih f' k' _ (A || U) σ3 (by omega) (by omega) ((M.tr M2.mq).tr F3) T3 hk' hfk' f0 ?_ (hR.or w (r.two w1))
          rcases hv with r | hv
          · exact Or.inl r
          · rcases v with r | v
            · exact Or.inl r
            · refine Or.inr (fun stk => ?_)
              rw [runB_app, runB_app, hv stk, v _]
              exact run_or
        · have q : o0.1 = (rd n b f false dep (tE n b k) true false).1 := by
            unfold Rest2 at hR
            rw [if_pos w] at hR
            rw [hR]
          exact bad σ3 (A || U) ((M.tr M2.mq).tr F3) (by rw [q]; exact z) (by rw [q]; exact f1) (by rw [q]; exact f2)
      cases A
      · cases U
        · exact ⟨fun c => absurd rfl c, fun _ => ⟨fun _ => wk, fun c => absurd rfl c⟩⟩
        · exact ⟨fun c => absurd rfl c, fun _ => ⟨fun c => absurd c (by decide), fun _ => wk⟩⟩
      · exact ⟨fun _ => wk, fun c => absurd c (by decide)⟩
  refine AMet.of rfl (Nat.le_of_ble_eq_true rfl) (vc_X12_either (d := d + 6) (m_all (F := F) (oW := false) hOne hdep hf hi hS hB' hT h0 hE (by omega) (fun σ1 V A => ?_)))
  rw [ho] at A
  rcases A with ⟨F1, ⟨f, k, s, f0, T1, hk, hfk, hff, w1, v, r⟩ | ⟨z, f1, f2⟩⟩
  · have r2 := r.two w1
    rw [show orT false = [] from rfl, List.append_nil] at r2
    exact loop f f k s V σ1 (Nat.le_refl f) hff F1 T1 hk hfk f0 v r2
  · exact bad σ1 V F1 z f1 f2
theorem m_P : ∀ f f', f' ≤ f → MOne G l n b j rdg g f' ∧ MAny G l n b j rdg g f' := by
  intro f
  induction f with
  | zero =>
    intro f' hf
    refine ⟨fun dep i σ D post _ q => ?_, fun dep i σ D post _ q => ?_⟩
    · omega
    · omega
  | succ f ih =>
    intro f' hf
    by_cases e : f' = f + 1
    · subst e
      exact ⟨mone_succ (ih f (Nat.le_refl f)).1 (ih f (Nat.le_refl f)).2, m_any (fun f' hf' => (ih f' (by omega)).1)⟩
    · exact ih f' (by omega)
theorem VAL.val {s : List Int32} {V : Bool} (h : VAL false g s V) : V = valE g s := by
  rcases h with r | h
  · cases r
  · unfold valE; rw [h []]; rfl
theorem m_either {i d : Nat} {post : Option AVal → AS → Prop} (hi : i ≤ n) (hS : St σ) (hB' : MB σ j n b) (hT : MTok σ n b i) (h0 : gI σ 13 24 0 = 0) (hE : EvF σ rdg g) (h : ∀ σ' V, MA rdg g σ σ' n b (rdE n b i) V → post (some (xI (bI V))) σ') : AMet G l M_X12_either (d + 31) 0 0 [xR (some (13, 0)), xI 0] σ post :=
  (m_P (2 * n + 2) (2 * n + 2) (Nat.le_refl _)).2 0 i σ (d + 31) post (by decide) (by omega) hi hS hB' hT h0 hE (by omega) h
end MALL
