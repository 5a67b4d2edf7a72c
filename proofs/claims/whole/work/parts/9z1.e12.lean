/-! Layer 3: an E, the reference reads it -/
def rq_to (n b : Nat) (st : Int × Int × rt_M) (P : Nat → Int × Int × rt_M → Prop) (Q : Int × rt_M → Prop) : Prop := ∀ f, n - b < f → (∃ f' b' st', n - b' < f' ∧ P b' st' ∧ rt_it (b_X12_reads_11 248) f st = rt_it (b_X12_reads_11 248) f' st') ∨ (∃ e, rt_it (b_X12_reads_11 248) f st = some e ∧ Q e)
section
variable {n b : Nat} {st : Int × Int × rt_M} {P P' : Nat → Int × Int × rt_M → Prop} {Q Q' : Int × rt_M → Prop}
theorem rq_to_in {b' : Nat} (h : rq (b_X12_reads_11 248 st) (fun x => ∃ st', x = .inl st' ∧ P b' st')) (hb : b < b') (hn : b < n) : rq_to n b st P Q := by
  intro f hf
  obtain ⟨f, rfl⟩ : ∃ g, f = g + 1 := ⟨f - 1, by omega⟩
  obtain ⟨x, e, st', rfl, hp⟩ := h
  exact Or.inl ⟨f, b', st', by omega, hp, rt_it_inl e⟩
theorem rq_to_out (h : rq (b_X12_reads_11 248 st) (fun x => ∃ p, x = .inr p ∧ Q p)) : rq_to n b st P Q := by
  intro f hf
  obtain ⟨f, rfl⟩ : ∃ g, f = g + 1 := ⟨f - 1, by omega⟩
  obtain ⟨x, e, p, rfl, hp⟩ := h
  exact Or.inr ⟨p, rt_it_inr e, hp⟩
theorem rq_to_id (h : P b st) : rq_to n b st P Q := fun f hf => Or.inl ⟨f, b, st, hf, h, rfl⟩
theorem rq_to_bind (h : rq_to n b st P Q) (k : ∀ b' st', P b' st' → rq_to n b' st' P' Q) : rq_to n b st P' Q := by
  intro f hf
  rcases h f hf with ⟨f', b', st', h1, h2, h3⟩ | ⟨e, h1, h2⟩
  · rw [h3]
    exact k b' st' h2 f' h1
  · exact Or.inr ⟨e, h1, h2⟩
theorem rq_to_mono (h : rq_to n b st P Q) (k1 : ∀ b' st', P b' st' → P' b' st') (k2 : ∀ e, Q e → Q' e) : rq_to n b st P' Q' := by
  intro f hf
  rcases h f hf with ⟨f', b', st', h1, h2, h3⟩ | ⟨e, h1, h2⟩
  · exact Or.inl ⟨f', b', st', h1, k1 _ _ h2, h3⟩
  · exact Or.inr ⟨e, h1, k2 _ h2⟩
end
def rq_toX (n b : Nat) (st : Int × Int × rt_M) (m : rt_M) (x : rq_EX) (A : rq_ET → Nat → Int × Int × rt_M → Prop) : Prop := rq_to n b st (fun b' st' => ∃ t, x = .inr (t, b') ∧ A t b' st') (fun e => ∃ q, x = .inl q ∧ rq_fE m q.1 q.2 e)
def rq_aft (s : Nat → Int) (n line d k : Nat) (ds : List Int) (b' : Nat) (C : rt_M → Prop) (m : rt_M) (st' : Int × Int × rt_M) : Prop := ∃ m', st' = ((d : Int), 0, m') ∧ rq_rH s n line b' (k + ds.length) m' ∧ rq_fr rq_wRe m m' ∧ rq_co k ds m m' ∧ C m'
def rq_oc (d : Nat) (m m' : rt_M) : Prop := ∀ j, j ≤ d → m' 264 j = m 264 j ∧ m' 265 j = m 265 j
def rq_RP (s : Nat → Int) (n line kk : Nat) (R : Nat → rq_EX) : Prop := ∀ d m b k, d + kk = 5 → rq_rH s n line b k m → rq_toX n b ((d : Int), 1, m) m (R b) (fun t b' st' => rq_aft s n line (rq_po m d) k t.2.1 b' (rq_oc d m) m st')
def rq_RL (s : Nat → Int) (n line kk : Nat) (R : Nat → rq_EX) : Prop := ∀ d m b k, d + kk = 5 → rq_po m d = d → rq_rH s n line b k m → rq_toX n b ((d : Int), 1, m) m (R b) (fun t b' st' => rq_aft s n line d k t.2.1 b' (rq_oc d m) m st')
def rq_ot (s : Nat → Int) (n d b' : Nat) (m m' : rt_M) : Prop := (∀ j, j ≤ d → m' 264 j = m 264 j) ∧ (∀ j, j < d → m' 265 j = m 265 j) ∧ ((rq_kd s n b' = 29 ∨ rq_kd s n b' = 30) → m' 265 d ≠ 0)
def rq_RT (s : Nat → Int) (n line kk : Nat) (R : Nat → rq_EX) : Prop := ∀ d m b k, d + kk = 5 → rq_po m d = d → m 265 d = 0 → rq_rH s n line b k m → rq_toX n b ((d : Int), 1, m) m (R b) (fun t b' st' => rq_aft s n line d k t.2.1 b' (rq_ot s n d b' m) m st')
section
variable {s : Nat → Int} {n line kk : Nat} {R : Nat → rq_EX}
theorem rq_fE_fr {m m1 : rt_M} {c : Int} {b : Nat} {p : Int × rt_M} (f : rq_fr rq_wRe m m1) (h : rq_fE m1 c b p) : rq_fE m c b p := ⟨h.1, h.2.1, f.trans h.2.2⟩
theorem rq_RL_P (h : rq_RP s n line kk R) : rq_RL s n line kk R := by
  intro d m b k hd hp hH
  have := h d m b k hd hH
  rw [hp] at this
  exact this
theorem rq_ec_RL (hok : rq_okT s n) {l : Int} (hl : l = 1 ∨ l = 2) (hR : rq_ge s n R) (h : rq_RL s n line kk R) : rq_RL s n line kk (rq_ec s n l R) := by
  intro d m b k hd hp hH
  have loop : ∀ f (t : rq_ET) (b1 : Nat) (m1 : rt_M), n - b1 < f → rq_rH s n line b1 (k + t.2.1.length) m1 → rq_fr rq_wRe m m1 → rq_co k t.2.1 m m1 → rq_oc d m m1 → rq_toX n b1 ((d : Int), 0, m1) m (rq_lpE s n l R f t b1) (fun t b' st' => rq_aft s n line d k t.2.1 b' (rq_oc d m) m st') := by
    intro f
    induction f with
    | zero => intro t b1 m1 h1; omega
    | succ f ih =>
      intro t b1 m1 h1 hH1 f1 c1 o1
      rw [rq_lpE_s]
      by_cases z : rq_jk l (rq_kd s n b1) = 0
      · rw [if_pos z]
        exact rq_to_id ⟨t, rfl, m1, rfl, hH1, f1, c1, o1⟩
      · rw [if_neg z]
        have hb := rq_jk_37 z
        have nx := rq_nxp_b (s := s) hb
        have bn := rq_bp_nx (s := s) hb
        refine rq_to_bind (P := fun b' st' => b' = rq_nxp s n b1 ∧ ∃ m2, st' = ((d : Int), 1, m2) ∧ rq_spE s n line b1 (k + t.2.1.length) (rq_cd (rq_jk l (rq_kd s n b1))) (m1 264) (m1 265) m1 m2) (rq_to_in (b' := rq_nxp s n b1) (rq_mono (q_r206 hok hH1 d hl z) ?_) (by omega) hb) ?_
        · rintro x ⟨m2, rfl, q⟩
          exact ⟨_, rfl, rfl, m2, rfl, q⟩
        rintro b' st' ⟨rfl, m2, rfl, hH2, f2, c2, o2, p2⟩
        have oo : rq_oc d m m2 := fun j hj => ⟨by rw [o2]; exact (o1 j hj).1, by rw [p2]; exact (o1 j hj).2⟩
        have hp2 : rq_po m2 d = d := by rw [rq_po_e d (fun j hj => (oo j hj).1), hp]
        have step := h d m2 (rq_nxp s n b1) _ hd hp2 hH2
        have f12 := f1.trans f2
        cases e : R (rq_nxp s n b1) with
        | inl q =>
          rw [e] at step
          refine rq_to_mono step ?_ ?_
          · rintro b' st' ⟨t, w, -⟩; cases w
          · rintro e2 ⟨q2, w, g⟩
            cases w
            exact ⟨q, rfl, rq_fE_fr f12 g⟩
        | inr q =>
          obtain ⟨u, b2⟩ := q
          rw [e] at step
          obtain ⟨a1, a2, a3, a4⟩ := rq_ge_r hR bn e
          dsimp only at a1 a2 a3 a4
          refine rq_to_bind (rq_to_mono step (fun _ _ q => q) (Q' := fun e => ∃ q, rq_lpE s n l R f (rq_jt (rq_jk l (rq_kd s n b1)) t u) b2 = .inl q ∧ rq_fE m q.1 q.2 e) ?_) ?_
          · rintro e2 ⟨q2, w, g⟩; cases w
          · rintro b' st' ⟨t', w, m3, rfl, hH3, f3, c3, o3⟩
            cases w
            have hb2 := a1.1
            have cc := rq_co_app (rq_co_app c1 c2) (es := u.2.1) (by rw [List.length_append]; exact c3)
            have el : k + (t.2.1 ++ rq_cd (rq_jk l (rq_kd s n b1)) :: u.2.1).length = k + t.2.1.length + 1 + u.2.1.length := by
              simp only [List.length_append, List.length_cons]
              omega
            have ec : t.2.1 ++ [rq_cd (rq_jk l (rq_kd s n b1))] ++ u.2.1 = t.2.1 ++ rq_cd (rq_jk l (rq_kd s n b1)) :: u.2.1 := by
              rw [List.append_assoc]; rfl
            rw [ec] at cc
            exact ih (rq_jt (rq_jk l (rq_kd s n b1)) t u) b2 m3 (by omega) (by
              show rq_rH s n line b2 (k + (t.2.1 ++ rq_cd (rq_jk l (rq_kd s n b1)) :: u.2.1).length) m3
              rw [el]; exact hH3) (f12.trans f3) cc (fun j hj => ⟨by rw [(o3 j hj).1]; exact (oo j hj).1, by rw [(o3 j hj).2]; exact (oo j hj).2⟩)
  have hn := hok.1
  have bp := hH.2.2.2.1
  have step := h d m b k hd hp hH
  unfold rq_ec
  cases e : R b with
  | inl q =>
    rw [e] at step
    refine rq_to_mono step ?_ ?_
    · rintro b' st' ⟨t, w, -⟩; cases w
    · rintro e2 ⟨q2, w, g⟩
      cases w
      exact ⟨q, rfl, g⟩
  | inr q =>
    obtain ⟨u, b2⟩ := q
    rw [e] at step
    obtain ⟨a1, a2, a3, a4⟩ := rq_ge_r hR bp e
    dsimp only at a1 a2 a3 a4 ⊢
    refine rq_to_bind (rq_to_mono step (fun _ _ q => q) (Q' := fun e => ∃ q, rq_lpE s n l R 1001 u b2 = .inl q ∧ rq_fE m q.1 q.2 e) ?_) ?_
    · rintro e2 ⟨q2, w, g⟩; cases w
    · rintro b' st' ⟨t', w, m3, rfl, hH3, f3, c3, o3⟩
      cases w
      exact loop 1001 u b2 m3 (by omega) hH3 f3 c3 o3
end
