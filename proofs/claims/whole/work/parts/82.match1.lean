/-! Layer 3: match, the asking and keeping -/
/-- w ahead of v for every head; h ahead of k for wig w -/
def rq_mp (off : Nat → Int) (w v : Nat) : Prop := off v < off w ∨ (off w = off v ∧ w < v)
def rq_mh (ti : Nat → Nat → Int) (w h k : Nat) : Prop := ti w h < ti w k ∨ (ti w h = ti w k ∧ h < k)
/-- a: whom each head has asked; k: whom each wig keeps -/
def rq_mS (N H : Nat) (acc : Nat → Nat → Prop) (off : Nat → Int) (ti : Nat → Nat → Int) (a : Nat → Nat) (k : Nat → Int) : Prop :=
  (∀ h, h < H → ∀ w, w < N → (a h).testBit w = true → acc h w) ∧
  (∀ h, h < H → ∀ w v, w < N → v < N → (a h).testBit w = true → acc h v → rq_mp off v w → (a h).testBit v = true) ∧
  (∀ w, w < N → (k w = -1 ∧ ∀ h, h < H → (a h).testBit w = false) ∨ ∃ h, h < H ∧ k w = (h : Int) ∧ (a h).testBit w = true ∧ ∀ h', h' < H → (a h').testBit w = true → h' = h ∨ rq_mh ti w h h')
def rq_mF (N H : Nat) (acc : Nat → Nat → Prop) (a : Nat → Nat) (k : Nat → Int) : Prop := ∀ h, h < H → (∃ w, w < N ∧ k w = (h : Int)) ∨ ∀ w, w < N → acc h w → (a h).testBit w = true
def rq_mL (N H : Nat) (acc : Nat → Nat → Prop) (off : Nat → Int) (ti : Nat → Nat → Int) (a : Nat → Nat) : Prop := ∀ (b : Nat → Nat) (k : Nat → Int), rq_mS N H acc off ti b k → rq_mF N H acc b k → ∀ h, h < H → ∀ w, w < N → (a h).testBit w = true → (b h).testBit w = true
/-- head h asks wig w -/
def rq_ma (a : Nat → Nat) (h w : Nat) : Nat → Nat := fun x => if x = h then a h ||| 2 ^ w else a x
def rq_mk2 (ti : Nat → Nat → Int) (k : Nat → Int) (h w : Nat) : Nat → Int := fun x => if x = w then (if k w = -1 then (h : Int) else if ti w h < ti w (k w).toNat ∨ (ti w h = ti w (k w).toNat ∧ (h : Int) < k w) then (h : Int) else k w) else k x
section
variable {N H : Nat} {acc : Nat → Nat → Prop} {off : Nat → Int} {ti : Nat → Nat → Int} {a b : Nat → Nat} {k kb : Nat → Int}
theorem rq_ma_tb (a : Nat → Nat) (h w x v : Nat) : (rq_ma a h w x).testBit v = ((a x).testBit v || (decide (x = h) && decide (w = v))) := by
  unfold rq_ma
  by_cases z : x = h
  · subst z; rw [if_pos rfl, Nat.testBit_or, Nat.testBit_two_pow]; simp
  · rw [if_neg z]; simp [z]
theorem rq_m_step (hS : rq_mS N H acc off ti a k) (hL : rq_mL N H acc off ti a) {h w : Nat} (hh : h < H) (hw : w < N) (free : ∀ v, v < N → k v ≠ (h : Int)) (hacc : acc h w) (un : (a h).testBit w = false) (best : ∀ v, v < N → acc h v → (a h).testBit v = false → v = w ∨ rq_mp off w v) :
    rq_mS N H acc off ti (rq_ma a h w) (rq_mk2 ti k h w) ∧ rq_mL N H acc off ti (rq_ma a h w) := by
  obtain ⟨s1, s2, s3⟩ := hS
  refine ⟨⟨?_, ?_, ?_⟩, ?_⟩
  · intro x hx v hv q
    rw [rq_ma_tb] at q
    simp only [Bool.or_eq_true, Bool.and_eq_true, decide_eq_true_eq] at q
    rcases q with q | ⟨rfl, rfl⟩
    · exact s1 x hx v hv q
    · exact hacc
  · intro x hx v u hv hu q ha hp
    rw [rq_ma_tb] at q ⊢
    simp only [Bool.or_eq_true, Bool.and_eq_true, decide_eq_true_eq] at q ⊢
    rcases q with q | ⟨rfl, rfl⟩
    · exact Or.inl (s2 x hx v u hv hu q ha hp)
    · by_cases y : (a x).testBit u = true
      · exact Or.inl y
      · rcases best u hu ha (by simpa using y) with e | e
        · exact Or.inr ⟨rfl, e.symm⟩
        · exfalso
          unfold rq_mp at hp e
          omega
  · intro v hv
    by_cases z : v = w
    · subst z
      have tb : ∀ x, x ≠ h → (rq_ma a h v x).testBit v = (a x).testBit v := fun x hx => by rw [rq_ma_tb]; simp [hx]
      have tbh : (rq_ma a h v h).testBit v = true := by rw [rq_ma_tb]; simp
      unfold rq_mk2
      rw [if_pos rfl]
      rcases s3 v hv with ⟨e, no⟩ | ⟨h0, h0H, e, y1, y2⟩
      · rw [if_pos e]
        refine Or.inr ⟨h, hh, rfl, tbh, fun x hx q => ?_⟩
        by_cases y : x = h
        · exact Or.inl y
        · rw [tb x y, no x hx] at q; cases q
      · have ne : h0 ≠ h := fun y => free v hv (by rw [e, y])
        rw [if_neg (by omega), e, Int.toNat_natCast]
        by_cases y : ti v h < ti v h0 ∨ (ti v h = ti v h0 ∧ (h : Int) < (h0 : Int))
        · rw [if_pos y]
          refine Or.inr ⟨h, hh, rfl, tbh, fun x hx q => ?_⟩
          by_cases yx : x = h
          · exact Or.inl yx
          · rw [tb x yx] at q
            refine Or.inr ?_
            rcases y2 x hx q with e2 | e2
            · subst e2; unfold rq_mh; omega
            · unfold rq_mh at e2 ⊢; omega
        · rw [if_neg y]
          refine Or.inr ⟨h0, h0H, rfl, by rw [tb h0 ne]; exact y1, fun x hx q => ?_⟩
          by_cases yx : x = h
          · subst yx
            refine Or.inr ?_
            unfold rq_mh
            omega
          · rw [tb x yx] at q
            exact y2 x hx q
    · have tb : ∀ x, (rq_ma a h w x).testBit v = (a x).testBit v := fun x => by rw [rq_ma_tb]; simp [show ¬ w = v from fun y => z y.symm]
      have ek : rq_mk2 ti k h w v = k v := by unfold rq_mk2; rw [if_neg z]
      rw [ek]
      rcases s3 v hv with ⟨e, no⟩ | ⟨h0, h0H, e, y1, y2⟩
      · exact Or.inl ⟨e, fun x hx => by rw [tb]; exact no x hx⟩
      · exact Or.inr ⟨h0, h0H, e, by rw [tb]; exact y1, fun x hx q => y2 x hx (by rw [← tb]; exact q)⟩
  · intro b kb bS bF x hx v hv q
    rw [rq_ma_tb] at q
    simp only [Bool.or_eq_true, Bool.and_eq_true, decide_eq_true_eq] at q
    rcases q with q | ⟨rfl, rfl⟩
    · exact hL b kb bS bF x hx v hv q
    · by_cases y : (b x).testBit w = true
      · exact y
      · exfalso
        obtain ⟨t1, t2, t3⟩ := bS
        rcases bF x hx with ⟨u, hu, e⟩ | all
        · -- x is kept by u in the end: u was asked already, and keeps x now
          have bu : (b x).testBit u = true := by
            rcases t3 u hu with ⟨e1, -⟩ | ⟨h0, h0H, e1, y1, -⟩
            · omega
            · have : h0 = x := by omega
              rw [this] at y1; exact y1
          have au : (a x).testBit u = true := by
            by_cases z : (a x).testBit u = true
            · exact z
            · exfalso
              rcases best u hu (t1 x hx u hu bu) (by simpa using z) with e2 | e2
              · rw [e2] at bu; exact y bu
              · exact y (t2 x hx u w hu hw bu hacc e2)
          refine free u hu ?_
          rcases s3 u hu with ⟨-, no⟩ | ⟨h1, h1H, e1, y1, y2⟩
          · rw [no x hx] at au; cases au
          · rcases y2 x hx au with e2 | e2
            · rw [e1, e2]
            · exfalso
              have b1 := hL b kb ⟨t1, t2, t3⟩ bF h1 h1H u hu y1
              rcases t3 u hu with ⟨e3, -⟩ | ⟨h0, h0H, e3, -, y3⟩
              · omega
              · have e0 : h0 = x := by omega
                rw [e0] at y3
                rcases y3 h1 h1H b1 with e4 | e4
                · rw [e4] at e2; unfold rq_mh at e2; omega
                · unfold rq_mh at e2 e4; omega
        · exact y (all w hw hacc)
theorem rq_m_uniq (hS : rq_mS N H acc off ti a k) (hF : rq_mF N H acc a k) (hL : rq_mL N H acc off ti a) (tS : rq_mS N H acc off ti b kb) (tF : rq_mF N H acc b kb) (tL : rq_mL N H acc off ti b) {w : Nat} (hw : w < N) : k w = kb w := by
  have e : ∀ h, h < H → (a h).testBit w = (b h).testBit w := fun h hh => by
    by_cases y : (a h).testBit w = true
    · rw [y, hL b kb tS tF h hh w hw y]
    · by_cases z : (b h).testBit w = true
      · exact absurd (tL a k hS hF h hh w hw z) y
      · rw [Bool.not_eq_true] at y z
        rw [y, z]
  rcases hS.2.2 w hw with ⟨e1, no⟩ | ⟨h1, h1H, e1, y1, y2⟩
  · rcases tS.2.2 w hw with ⟨e2, -⟩ | ⟨h2, h2H, e2, z1, z2⟩
    · rw [e1, e2]
    · rw [← e h2 h2H, no h2 h2H] at z1; cases z1
  · rcases tS.2.2 w hw with ⟨e2, no⟩ | ⟨h2, h2H, e2, z1, z2⟩
    · rw [e h1 h1H, no h1 h1H] at y1; cases y1
    · rcases y2 h2 h2H (by rw [e h2 h2H]; exact z1) with q | q
      · rw [e1, e2, q]
      · rcases z2 h1 h1H (by rw [← e h1 h1H]; exact y1) with p | p
        · rw [e1, e2, p]
        · unfold rq_mh at q p; omega
theorem rq_m_0 : rq_mS N H acc off ti (fun _ => 0) (fun _ => -1) ∧ rq_mL N H acc off ti (fun _ => 0) := by
  refine ⟨⟨fun h _ w _ q => absurd q (by simp), fun h _ w v _ _ q => absurd q (by simp), fun w _ => Or.inl ⟨rfl, fun h _ => by simp⟩⟩, fun b kb _ _ h _ w _ q => absurd q (by simp)⟩
/-- the best of those below n -/
def rq_bw (p : Nat → Bool) (off : Nat → Int) : Nat → Int
  | 0 => -1
  | n + 1 => if p n = true ∧ (rq_bw p off n = -1 ∨ off (rq_bw p off n).toNat < off n) then (n : Int) else rq_bw p off n
theorem rq_bw_s (p : Nat → Bool) (off : Nat → Int) (n : Nat) : rq_bw p off (n + 1) = if p n = true ∧ (rq_bw p off n = -1 ∨ off (rq_bw p off n).toNat < off n) then (n : Int) else rq_bw p off n := rfl
theorem rq_bw_at (p : Nat → Bool) (off : Nat → Int) : ∀ n, (rq_bw p off n = -1 ∧ ∀ w, w < n → p w = false) ∨ ∃ w, w < n ∧ rq_bw p off n = (w : Int) ∧ p w = true ∧ ∀ v, v < n → p v = true → v = w ∨ rq_mp off w v
  | 0 => Or.inl ⟨rfl, fun w hw => absurd hw (Nat.not_lt_zero w)⟩
  | n + 1 => by
    rw [rq_bw_s]
    rcases rq_bw_at p off n with ⟨e, no⟩ | ⟨w, hw, e, pw, h⟩
    · by_cases z : p n = true
      · rw [if_pos ⟨z, Or.inl e⟩]
        refine Or.inr ⟨n, by omega, rfl, z, fun v hv q => ?_⟩
        by_cases y : v = n
        · exact Or.inl y
        · rw [no v (by omega)] at q; cases q
      · rw [if_neg (fun y => z y.1)]
        refine Or.inl ⟨e, fun v hv => ?_⟩
        by_cases y : v = n
        · rw [y]; simpa using z
        · exact no v (by omega)
    · rw [e, Int.toNat_natCast]
      by_cases z : p n = true ∧ ((w : Int) = -1 ∨ off w < off n)
      · rw [if_pos z]
        have z2 : off w < off n := z.2.resolve_left (by omega)
        refine Or.inr ⟨n, by omega, rfl, z.1, fun v hv q => ?_⟩
        by_cases y : v = n
        · exact Or.inl y
        · refine Or.inr ?_
          rcases h v (by omega) q with e2 | e2
          · subst e2; exact Or.inl z2
          · unfold rq_mp at e2 ⊢; omega
      · rw [if_neg z]
        refine Or.inr ⟨w, by omega, rfl, pw, fun v hv q => ?_⟩
        by_cases y : v = n
        · subst y
          refine Or.inr ?_
          have : ¬ off w < off v := fun y => z ⟨q, Or.inr y⟩
          unfold rq_mp; omega
        · exact h v (by omega) q
theorem rq_bw_b (p : Nat → Bool) (off : Nat → Int) (n : Nat) : -1 ≤ rq_bw p off n ∧ rq_bw p off n < (n : Int) := by
  rcases rq_bw_at p off n with ⟨e, -⟩ | ⟨w, hw, e, -⟩ <;> omega
/-- how many have been asked -/
def rq_mc (N : Nat) (a : Nat → Nat) (H : Nat) : Int := rq_sum (fun h => rq_sum (fun w => if (a h).testBit w = true then 1 else 0) N) H
theorem rq_mc_b (N H : Nat) (a : Nat → Nat) (hN : N ≤ 6) (hH : H ≤ 6) : rq_mc N a H ≤ 36 := by
  have h1 : ∀ h, 0 ≤ rq_sum (fun w => if (a h).testBit w = true then (1 : Int) else 0) N ∧ rq_sum (fun w => if (a h).testBit w = true then (1 : Int) else 0) N ≤ 6 := fun h => by
    have := rq_sum_b (f := fun w => if (a h).testBit w = true then (1 : Int) else 0) (c := 1) (by decide) N (fun i _ => by split <;> decide)
    omega
  have := rq_sum_b (f := fun h => rq_sum (fun w => if (a h).testBit w = true then (1 : Int) else 0) N) (c := 6) (by decide) H (fun i _ => h1 i)
  unfold rq_mc
  omega
theorem rq_mc_step {h w : Nat} (hh : h < H) (hw : w < N) (un : (a h).testBit w = false) : rq_mc N (rq_ma a h w) H = rq_mc N a H + 1 := by
  unfold rq_mc
  refine rq_sum_one (w := h) (fun x hx => ?_) ?_ _ hh
  · show rq_sum _ N = rq_sum _ N
    refine rq_sum_c _ (fun v _ => ?_)
    rw [rq_ma_tb]; simp [hx]
  · show rq_sum _ N = rq_sum _ N + 1
    refine rq_sum_one (w := w) (fun v hv => ?_) ?_ _ hw
    · rw [rq_ma_tb]; simp [show ¬ w = v from fun y => hv y.symm]
    · show (if (rq_ma a h w h).testBit w = true then (1 : Int) else 0) = (if (a h).testBit w = true then 1 else 0) + 1
      rw [rq_ma_tb, un]; simp
end
