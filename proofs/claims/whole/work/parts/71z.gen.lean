/-! Layer 3: a search by steps for the first row of the most -/
section
variable {F : Nat → Int} {RR : Nat → Nat → Int} {R0 R cu cu' ro ro1 ro2 : Nat → Int} {i N j H : Nat} {sum b b1 b2 t x T : Int}
/-- from step i on: t is the most there, R its row; b, ro the best ahead of it -/
def rq_gz (i N : Nat) (t : Int) (R cu : Nat → Int) (b : Int) (ro : Nat → Int) (b' : Int) (ro' : Nat → Int) : Prop :=
  (b < t → b' = t ∧ (∀ w, w < i → ro' w = cu w) ∧ ∀ w, i ≤ w → w < N → ro' w = R w) ∧ (¬ b < t → b' = b ∧ ∀ w, w < N → ro' w = ro w)
/-- the choices of step i below j are tried -/
def rq_gj (F : Nat → Int) (RR : Nat → Nat → Int) (i N j : Nat) (sum : Int) (cu : Nat → Int) (b : Int) (ro : Nat → Int) (b' : Int) (ro' : Nat → Int) : Prop :=
  ((0 ≤ rq_mx F (-1) j ∧ b < sum + rq_mx F (-1) j) ∧ b' = sum + rq_mx F (-1) j ∧ ∃ c, c < j ∧ F c = rq_mx F (-1) j ∧ (∀ d, d < c → F d < rq_mx F (-1) j) ∧ (∀ w, w < i → ro' w = cu w) ∧ ro' i = (c : Int) ∧ ∀ w, i < w → w < N → ro' w = RR c w) ∨
  (¬ (0 ≤ rq_mx F (-1) j ∧ b < sum + rq_mx F (-1) j) ∧ b' = b ∧ ∀ w, w < N → ro' w = ro w)
theorem rq_gj_0 : rq_gj F RR i N 0 sum cu b ro b ro := Or.inr ⟨fun y => absurd y.1 (by show ¬ (0 : Int) ≤ -1; decide), rfl, fun _ _ => rfl⟩
theorem rq_gj_skip (e : F j = -1) (h : rq_gj F RR i N j sum cu b ro b1 ro1) : rq_gj F RR i N (j + 1) sum cu b ro b1 ro1 := by
  have mge := rq_mx_ge (f := F) (x := -1) j
  have msuc : rq_mx F (-1) (j + 1) = rq_mx F (-1) j := by
    show (if rq_mx F (-1) j < F j then F j else rq_mx F (-1) j) = _
    rw [e, if_neg (by omega)]
  unfold rq_gj
  rw [msuc]
  rcases h with ⟨a1, a2, c, c1, c2⟩ | h
  · exact Or.inl ⟨a1, a2, c, by omega, c2⟩
  · exact Or.inr h
theorem rq_gj_step (hi : i < N) (fj : 0 ≤ F j) (hcu : ∀ w, w < i → cu' w = cu w) (hci : cu' i = (j : Int)) (h : rq_gj F RR i N j sum cu b ro b1 ro1) (g : rq_gz (i + 1) N (sum + F j) (RR j) cu' b1 ro1 b2 ro2) : rq_gj F RR i N (j + 1) sum cu b ro b2 ro2 := by
  have mge := rq_mx_ge (f := F) (x := -1) j
  have mle := rq_mx_le (f := F) (x := -1) j
  have msuc : rq_mx F (-1) (j + 1) = if rq_mx F (-1) j < F j then F j else rq_mx F (-1) j := rfl
  obtain ⟨g1, g2⟩ := g
  unfold rq_gj
  by_cases z : b1 < sum + F j
  · obtain ⟨c1, c2, c3⟩ := g1 z
    have hM : rq_mx F (-1) j < F j := by
      rcases h with ⟨a1, a2, -⟩ | ⟨a1, a2, -⟩ <;> omega
    rw [if_pos hM] at msuc
    rw [msuc]
    refine Or.inl ⟨⟨fj, ?_⟩, c1, j, by omega, rfl, fun d hd => by have := mle d hd; omega, fun w hw => ?_, ?_, fun w h1 h2 => c3 w (by omega) h2⟩
    · rcases h with ⟨a1, a2, -⟩ | ⟨a1, a2, -⟩ <;> omega
    · rw [c2 w (by omega), hcu w hw]
    · rw [c2 i (by omega), hci]
  · obtain ⟨c1, c2⟩ := g2 z
    rcases h with ⟨a1, a2, cc, d1, d2, d3, d4, d5, d6⟩ | ⟨a1, a2, a3⟩
    · have hM : ¬ rq_mx F (-1) j < F j := by omega
      rw [if_neg hM] at msuc
      rw [msuc]
      refine Or.inl ⟨a1, by rw [c1, a2], cc, by omega, d2, d3, fun w hw => ?_, ?_, fun w h1 h2 => ?_⟩
      · rw [c2 w (by omega)]; exact d4 w hw
      · rw [c2 i hi]; exact d5
      · rw [c2 w h2]; exact d6 w h1 h2
    · refine Or.inr ⟨?_, by rw [c1, a2], fun w hw => by rw [c2 w hw]; exact a3 w hw⟩
      rw [msuc]
      split <;> omega
/-- none is chosen at last -/
theorem rq_gj_last (hi : i < N) (hx : 0 ≤ x) (hcu : ∀ w, w < i → cu' w = cu w) (hci : cu' i = -1) (hT : T = if x < rq_mx F (-1) H then rq_mx F (-1) H else x)
    (hR0 : rq_mx F (-1) H < x → ∀ w, i ≤ w → w < N → R w = if w = i then -1 else R0 w) (hRc : ∀ c, c < H → F c = rq_mx F (-1) H → (∀ d, d < c → F d < rq_mx F (-1) H) → x ≤ rq_mx F (-1) H → ∀ w, i ≤ w → w < N → R w = if w = i then (c : Int) else RR c w)
    (h : rq_gj F RR i N H sum cu b ro b1 ro1) (g : rq_gz (i + 1) N (sum + x) R0 cu' b1 ro1 b2 ro2) : rq_gz i N (sum + T) R cu b ro b2 ro2 := by
  obtain ⟨g1, g2⟩ := g
  have mge := rq_mx_ge (f := F) (x := -1) H
  by_cases z : b1 < sum + x
  · obtain ⟨c1, c2, c3⟩ := g1 z
    have hlt : rq_mx F (-1) H < x := by
      rcases h with ⟨a1, a2, -⟩ | ⟨a1, a2, -⟩ <;> omega
    have et : T = x := by rw [hT, if_neg (by omega)]
    rw [et]
    have hlt2 : b < sum + x := by
      rcases h with ⟨a1, a2, -⟩ | ⟨a1, a2, -⟩ <;> omega
    refine ⟨fun _ => ⟨c1, fun w hw => ?_, fun w h1 h2 => ?_⟩, fun y => absurd hlt2 y⟩
    · rw [c2 w (by omega), hcu w hw]
    · rw [hR0 hlt w h1 h2]
      by_cases y : w = i
      · rw [if_pos y, y, c2 i (by omega), hci]
      · rw [if_neg y, c3 w (by omega) h2]
  · obtain ⟨c1, c2⟩ := g2 z
    rcases h with ⟨a1, a2, cc, d1, d2, d3, d4, d5, d6⟩ | ⟨a1, a2, a3⟩
    · have hR := hRc cc d1 d2 d3 (by omega)
      have et : T = rq_mx F (-1) H := by rw [hT]; split <;> omega
      rw [et]
      refine ⟨fun _ => ⟨by rw [c1, a2], fun w hw => ?_, fun w h1 h2 => ?_⟩, fun y => absurd a1.2 y⟩
      · rw [c2 w (by omega)]; exact d4 w hw
      · rw [hR w h1 h2, c2 w h2]
        by_cases y : w = i
        · rw [if_pos y, y]; exact d5
        · rw [if_neg y, d6 w (by omega) h2]
    · refine ⟨fun y => ?_, fun _ => ⟨by rw [c1, a2], fun w hw => by rw [c2 w hw]; exact a3 w hw⟩⟩
      rw [hT] at y
      split at y <;> omega
theorem rq_sum_ad (f g : Nat → Int) : ∀ n, rq_sum (fun w => f w + g w) n = rq_sum f n + rq_sum g n
  | 0 => rfl
  | n + 1 => by
    have a := rq_sum_ad f g n
    simp only [rq_sum_s]
    omega
theorem rq_sum_one {f f' : Nat → Int} {w : Nat} {d : Int} (h : ∀ k, k ≠ w → f' k = f k) (e : f' w = f w + d) : ∀ n, w < n → rq_sum f' n = rq_sum f n + d
  | 0, hw => absurd hw (Nat.not_lt_zero w)
  | n + 1, hw => by
    simp only [rq_sum_s]
    by_cases z : w = n
    · subst z
      rw [rq_sum_c (f := f') (g := f) w (fun k hk => h k (by omega)), e]
      omega
    · rw [rq_sum_one h e n (by omega), h n (fun y => z y.symm)]
      omega
end
