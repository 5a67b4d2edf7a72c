/-! Layer 3: an E, the reference reads it, to the end -/
section
variable {s : Nat → Int} {n line kk : Nat} {R : Nat → rq_EX}
theorem rq_po_top {m : rt_M} {d : Nat} (h : m 264 (d + 1) ≠ 1) : rq_po m (d + 1) = d + 1 := by
  unfold rq_po
  rw [if_neg h]
theorem rq_po_dn {m : rt_M} {d : Nat} (h : m 264 (d + 1) = 1) : rq_po m (d + 1) = rq_po m d := by
  rw [rq_po, if_pos h]
theorem rq_ep_RP (hok : rq_okT s n) (hl : line < 2) : ∀ kk, rq_RP s n line kk (rq_ep s n line kk) := by
  have hn := hok.1
  intro kk
  induction kk with
  | zero =>
    intro d m b k hd hH
    obtain rfl : d = 5 := by omega
    show rq_toX n b _ m (if rq_pb line (rq_kd s n b) = true then (.inl (5, b) : rq_EX) else .inl (1, b)) _
    by_cases z : rq_pb line (rq_kd s n b) = true
    · rw [if_pos z]
      refine rq_to_out (rq_mono (q_r5 hok hH hl z) ?_)
      rintro x ⟨p, rfl, a⟩
      exact ⟨p, rfl, _, rfl, a⟩
    · rw [if_neg z]
      refine rq_to_out (rq_mono ((q_r65 hok hH hl 5).2 z) ?_)
      rintro x ⟨p, rfl, a⟩
      exact ⟨p, rfl, _, rfl, a⟩
  | succ kk ih =>
    intro d m b k hd hH
    rw [rq_ep_s]
    by_cases z : rq_pb line (rq_kd s n b) = true
    rotate_left
    · rw [if_neg z]
      refine rq_to_out (rq_mono ((q_r65 hok hH hl d).2 z) ?_)
      rintro x ⟨p, rfl, a⟩
      exact ⟨p, rfl, _, rfl, a⟩
    rw [if_pos z]
    have hb := rq_pb_lt hl z
    have nx := rq_nxp_b (s := s) hb
    have bn := rq_bp_nx (s := s) hb
    by_cases z27 : rq_kd s n b = 27
    · rw [if_pos z27]
      have z18 : rq_kd s n b ≠ 18 := by omega
      refine rq_to_bind (P := fun b' st' => b' = rq_nxp s n b ∧ ∃ m1, st' = (((d + 1 : Nat) : Int), 1, m1) ∧ rq_spE s n line b k 28 (fun j => if j = d + 1 then 2 else m 264 j) (fun j => if j = d + 1 then 0 else m 265 j) m m1) (rq_to_in (b' := rq_nxp s n b) (rq_mono (q_r86 hok hH hl (d := d) (by omega) (Or.inl z27)) ?_) (by omega) hb) ?_
      · rintro x ⟨m1, rfl, q⟩
        rw [if_neg z18, if_neg z18] at q
        exact ⟨_, rfl, rfl, m1, rfl, q⟩
      rintro b' st' ⟨rfl, m1, rfl, hH1, f1, c1, o1, p1⟩
      have ol : ∀ j, j ≤ d → m1 264 j = m 264 j := fun j hj => by rw [o1]; dsimp only; rw [if_neg (by omega)]
      have pl : ∀ j, j ≤ d → m1 265 j = m 265 j := fun j hj => by rw [p1]; dsimp only; rw [if_neg (by omega)]
      have ot : m1 264 (d + 1) = 2 := by rw [o1]; dsimp only; rw [if_pos rfl]
      have pt : m1 265 (d + 1) = 0 := by rw [p1]; dsimp only; rw [if_pos rfl]
      have step := rq_eE_RT hok (rq_ep_ge hl kk) ih (d + 1) m1 (rq_nxp s n b) (k + 1) (by omega) (rq_po_top (by rw [ot]; decide)) pt hH1
      cases e : rq_eE s n (rq_ep s n line kk) (rq_nxp s n b) with
      | inl q =>
        rw [e] at step
        refine rq_to_mono step ?_ ?_
        · rintro b' st' ⟨t, w, -⟩; cases w
        · rintro e2 ⟨q2, w, g⟩
          cases w
          exact ⟨q, rfl, rq_fE_fr f1 g⟩
      | inr q =>
        obtain ⟨t, b2⟩ := q
        rw [e] at step
        obtain ⟨k1, k3⟩ := rq_eE_E hn (rq_ep_ge hl kk) bn e
        dsimp only at k1 k3 ⊢
        refine rq_to_bind (rq_to_mono step (fun _ _ q => q) (Q' := fun e => ∃ q, rq_clo s n t b2 = .inl q ∧ rq_fE m q.1 q.2 e) ?_) ?_
        · rintro e2 ⟨q2, w, g⟩; cases w
        rintro b' st' ⟨t', w, m2, rfl, hH2, f2, c2, o2, p2, g2⟩
        cases w
        have f12 := f1.trans f2
        have oo : ∀ j, j ≤ d → m2 264 j = m 264 j := fun j hj => by rw [o2 j (by omega), ol j hj]
        have pp : ∀ j, j ≤ d → m2 265 j = m 265 j := fun j hj => by rw [p2 j (by omega), pl j hj]
        obtain ⟨y1, y0⟩ := q_rcl hok hH2 (d := d) (by omega) k1 g2 k3
        unfold rq_clo
        by_cases z28 : rq_kd s n b2 = 28
        · have hb2 : b2 < n := rq_kd_lt (s := s) (by omega)
          have nx2 := rq_nxp_b (s := s) hb2
          rw [if_pos z28]
          refine rq_to_in (b' := rq_nxp s n b2) (rq_mono (y1 z28) ?_) (by omega) hb2
          rintro x ⟨m3, rfl, hH3, f3, c3, o3, p3⟩
          have cc := rq_co_app (rq_co_app c1 c2) (es := [29]) (by rw [List.length_append]; show rq_co (k + (1 + t.2.1.length)) [29] m2 m3; rw [show k + (1 + t.2.1.length) = k + 1 + t.2.1.length by omega]; exact c3)
          refine ⟨_, rfl, _, rfl, m3, by rw [rq_po_e d oo], ?_, f12.trans f3, ?_, fun j hj => ⟨by rw [o3]; exact oo j hj, by rw [p3]; exact pp j hj⟩⟩
          · show rq_rH s n line (rq_nxp s n b2) (k + (28 :: (t.2.1 ++ [29])).length) m3
            rw [show k + (28 :: (t.2.1 ++ [29])).length = k + 1 + t.2.1.length + 1 by simp only [List.length_append, List.length_cons, List.length_nil]; omega]
            exact hH3
          · exact cc
        · rw [if_neg z28]
          refine rq_to_out (rq_mono (y0 z28) ?_)
          rintro x ⟨p, rfl, a⟩
          exact ⟨p, rfl, _, rfl, rq_fE_fr f12 a⟩
    rw [if_neg z27]
    by_cases z18 : rq_kd s n b = 18
    · rw [if_pos z18]
      refine rq_to_bind (P := fun b' st' => b' = rq_nxp s n b ∧ ∃ m1, st' = (((d + 1 : Nat) : Int), 1, m1) ∧ rq_spE s n line b k 30 (fun j => if j = d + 1 then 1 else m 264 j) (fun j => if j = d + 1 then 0 else m 265 j) m m1) (rq_to_in (b' := rq_nxp s n b) (rq_mono (q_r86 hok hH hl (d := d) (by omega) (Or.inr z18)) ?_) (by omega) hb) ?_
      · rintro x ⟨m1, rfl, q⟩
        rw [if_pos z18, if_pos z18] at q
        exact ⟨_, rfl, rfl, m1, rfl, q⟩
      rintro b' st' ⟨rfl, m1, rfl, hH1, f1, c1, o1, p1⟩
      have ol : ∀ j, j ≤ d → m1 264 j = m 264 j := fun j hj => by rw [o1]; dsimp only; rw [if_neg (by omega)]
      have pl : ∀ j, j ≤ d → m1 265 j = m 265 j := fun j hj => by rw [p1]; dsimp only; rw [if_neg (by omega)]
      have ot : m1 264 (d + 1) = 1 := by rw [o1]; dsimp only; rw [if_pos rfl]
      have step := ih (d + 1) m1 (rq_nxp s n b) (k + 1) (by omega) hH1
      rw [rq_po_dn ot, rq_po_e d ol] at step
      cases e : rq_ep s n line kk (rq_nxp s n b) with
      | inl q =>
        rw [e] at step
        refine rq_to_mono step ?_ ?_
        · rintro b' st' ⟨t, w, -⟩; cases w
        · rintro e2 ⟨q2, w, g⟩
          cases w
          exact ⟨q, rfl, rq_fE_fr f1 g⟩
      | inr q =>
        obtain ⟨t, b2⟩ := q
        rw [e] at step
        refine rq_to_mono step ?_ ?_
        rotate_left
        · rintro e2 ⟨q2, w, g⟩; cases w
        rintro b' st' ⟨t', w, m2, rfl, hH2, f2, c2, o2⟩
        cases w
        have cc := rq_co_app c1 (es := t.2.1) c2
        refine ⟨_, rfl, m2, rfl, ?_, f1.trans f2, cc, fun j hj => ⟨by rw [(o2 j (by omega)).1, ol j hj], by rw [(o2 j (by omega)).2, pl j hj]⟩⟩
        show rq_rH s n line b2 (k + (30 :: t.2.1).length) m2
        rw [show k + (30 :: t.2.1).length = k + 1 + t.2.1.length by simp only [List.length_cons]; omega]
        exact hH2
    rw [if_neg z18]
    refine rq_to_in (b' := rq_nxp s n b) (rq_mono (q_r147 hok hH hl (d := d) (by omega) z z27 z18) ?_) (by omega) hb
    rintro x ⟨m1, c, rfl, hc, hH1, f1, c1, o1, p1⟩
    refine ⟨_, rfl, _, rfl, m1, rfl, ?_, f1, ?_, fun j hj => ⟨o1 j, p1 j⟩⟩
    · rw [hc]; exact hH1
    · rw [hc]; exact c1
/-- the reference reads an E and the end of its line -/
def rq_rdR (s : Nat → Int) (n k : Nat) (m : rt_M) (x : rq_EX) (p : Int × rt_M) : Prop := match x with
  | .inl q => rq_fE m q.1 q.2 p
  | .inr q => p.1 = 1 ∧ rq_ts s n q.2 p.2 ∧ rq_fr rq_wRe m p.2 ∧ rq_co k q.1.2.1 m p.2
theorem q_reads (hok : rq_okT s n) (hl : line < 2) {m : rt_M} {b k : Nat} (h : rq_rH s n line b k m) : rq (f_X12_reads 248 m) (rq_rdR s n k m (match rq_eE s n (rq_ep s n line 5) b with
    | .inl q => .inl q
    | .inr q => if rq_kd s n q.2 = 34 then .inr (q.1, rq_nxp s n q.2) else .inl (1, q.2))) := by
  have hn := hok.1
  unfold f_X12_reads
  rw [q_gfr, Option.bind_some, show (0 : Int) = ((0 : Nat) : Int) from rfl, q_s3 _ (pt_248_28 h.1) kd_265 ln_265 (show 0 < 7 by decide), Option.bind_some]
  have f0 : rq_fr rq_wRe m (rt_up m 265 0 ((0 : Nat) : Int)) := rq_fr.rfl.up rfl
  have e0 : rt_up m 265 0 ((0 : Nat) : Int) 265 0 = 0 := rq_upE m 265 0 _
  have g0 : ∀ a j, a ≠ 265 → rt_up m 265 0 ((0 : Nat) : Int) a j = m a j := fun a j ha => by rw [q_up, if_neg (fun q => ha q.1)]
  generalize rt_up m 265 0 ((0 : Nat) : Int) = m1 at f0 e0 g0 ⊢
  have hH1 : rq_rH s n line b k m1 := by
    obtain ⟨h1, h2, h3, h4, h5, h6, h7⟩ := h
    exact ⟨rq_st_fr h1 f0 rq_wRe_st, ⟨by rw [g0 248 3 (by decide)]; exact h2.1, fun i hi => by rw [g0 249 i (by decide)]; exact h2.2 i hi⟩, rq_ts_fr h3 (fun j _ _ => g0 248 j (by decide)), h4, by rw [g0 248 25 (by decide)]; exact h5, by rw [g0 248 24 (by decide)]; exact h6, h7⟩
  have step := rq_eE_RT hok (rq_ep_ge hl 5) (rq_ep_RP hok hl 5) 0 m1 b k (by decide) rfl e0 hH1
  have all : rq_to n b (((0 : Nat) : Int), 1, m1) (fun _ _ => False) (rq_rdR s n k m (match rq_eE s n (rq_ep s n line 5) b with
    | .inl q => .inl q
    | .inr q => if rq_kd s n q.2 = 34 then .inr (q.1, rq_nxp s n q.2) else .inl (1, q.2))) := by
    cases e : rq_eE s n (rq_ep s n line 5) b with
    | inl q =>
      rw [e] at step
      refine rq_to_mono step ?_ ?_
      · rintro b' st' ⟨t, w, -⟩; cases w
      · rintro e2 ⟨q2, w, g⟩
        cases w
        exact rq_fE_fr f0 g
    | inr q =>
      obtain ⟨t, b2⟩ := q
      rw [e] at step
      obtain ⟨k1, k3⟩ := rq_eE_E hn (rq_ep_ge hl 5) h.2.2.2.1 e
      dsimp only at k1 k3 ⊢
      refine rq_to_bind (rq_to_mono step (fun _ _ q => q) ?_) ?_
      · rintro e2 ⟨q2, w, g⟩; cases w
      rintro b' st' ⟨t', w, m2, rfl, hH2, f2, c2, o2, p2, g2⟩
      cases w
      have f12 := f0.trans f2
      have c0 : rq_co k t.2.1 m m2 := ⟨c2.1, c2.2.1, fun i hi => by rw [c2.2.2 i hi, g0 263 i (by decide)]⟩
      obtain ⟨y1, y0⟩ := q_rend hok hH2 k1 g2 k3
      by_cases z : rq_kd s n b2 = 34
      · rw [if_pos z]
        refine rq_to_out (rq_mono (y1 z) ?_)
        rintro x ⟨m3, rfl, a1, a2⟩
        exact ⟨_, rfl, rfl, a1, f12.trans (a2.mono (fun _ _ => rq_wRe_N)), rq_co_fr c0 (a2 248 24 rfl) (fun i => a2 263 i rfl)⟩
      · rw [if_neg z]
        refine rq_to_out (rq_mono (y0 z) ?_)
        rintro x ⟨p, rfl, a⟩
        exact ⟨p, rfl, rq_fE_fr f12 a⟩
  rcases all 4000 (by omega) with ⟨f', b', st', -, w, -⟩ | ⟨e, e1, e2⟩
  · exact w.elim
  · exact ⟨e, e1, e2⟩
end
