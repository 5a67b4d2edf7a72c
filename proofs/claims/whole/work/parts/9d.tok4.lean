/-! Layer 3: the class's splitting -/
section
variable {m : rt_M} {s : Nat → Int} {n : Nat}
/-- the first T tokens are laid -/
def rq_tks (s : Nat → Int) (n T : Nat) (m : rt_M) : Prop := m 42 5 = (T : Int) ∧ ∀ i, i < T → m 44 i = rq_kd s n (rq_sti s n i) ∧ m 45 i = ((rq_sti s n i : Nat) : Int) ∧ m 46 i = rq_vl s n (rq_sti s n i)
theorem q_addTok_ (hs : rq_st m) {T : Nat} (hT : T < 1001) (h : rq_tks s n T m) {b : Nat} (hb : rq_sti s n T = b) {k v : Int} (hk : k = rq_kd s n b) (hv : v = rq_vl s n b) : rq (f_X8_addToken_ ((42 : Nat) : Int) k (b : Int) v m) (fun m1 => rq_tks s n (T + 1) m1 ∧ rq_fr rq_wTk m m1) := by
  have kb := rq_kd_b s n b
  unfold f_X8_addToken_ j_X8_addToken__52
  have f1 : rq_fr rq_wTk m (rt_up m 44 T k) := rq_fr.rfl.up rfl
  have s1 := rq_st_fr hs f1 rq_wTk_st
  have f2 : rq_fr rq_wTk m (rt_up (rt_up m 44 T k) 45 T (b : Int)) := f1.up rfl
  have s2 := rq_st_fr hs f2 rq_wTk_st
  have e1 : rt_up m 44 T k 42 5 = (T : Int) := h.1
  have e2 : rt_up (rt_up m 44 T k) 45 T (b : Int) 42 5 = (T : Int) := h.1
  have e3 : rt_up (rt_up (rt_up m 44 T k) 45 T (b : Int)) 46 T v 42 5 = (T : Int) := h.1
  rw [q_g8, Option.bind_some, q_g8, Option.bind_some, h.1, pt_42_2 hs, show (44 : Int) = ((44 : Nat) : Int) from rfl, q_len kd_44, Option.bind_some, ln_44, if_neg (by omega), Option.bind_some, Option.bind_some]
  have ew : rt_saw ((44 : Nat) : Int) (T : Int) k m = some (rt_up m 44 T k) := by
    unfold rt_saw
    rw [if_pos (by omega), q_sa kd_44 ln_44 hT]
  rw [ew, Option.bind_some, q_g8, Option.bind_some, q_g8, Option.bind_some, e1, pt_42_3 s1, show (45 : Int) = ((45 : Nat) : Int) from rfl, q_sa kd_45 ln_45 hT, Option.bind_some, q_g8, Option.bind_some, q_g8, Option.bind_some, e2, pt_42_4 s2, show (46 : Int) = ((46 : Nat) : Int) from rfl, q_sa kd_46 ln_46 hT, Option.bind_some, q_g8, Option.bind_some, e3, q_p8, Option.bind_some, rq_n1 (by omega)]
  refine rq_some.mpr ⟨⟨?_, fun i hi => ?_⟩, (f2.up rfl).up rfl⟩
  · rw [q_up, if_pos ⟨rfl, rfl⟩]
  · have g44 : rt_up (rt_up (rt_up (rt_up m 44 T k) 45 T (b : Int)) 46 T v) 42 5 ((T + 1 : Nat) : Int) 44 i = if i = T then k else m 44 i := by simp [q_up]
    have g45 : rt_up (rt_up (rt_up (rt_up m 44 T k) 45 T (b : Int)) 46 T v) 42 5 ((T + 1 : Nat) : Int) 45 i = if i = T then (b : Int) else m 45 i := by simp [q_up]
    have g46 : rt_up (rt_up (rt_up (rt_up m 44 T k) 45 T (b : Int)) 46 T v) 42 5 ((T + 1 : Nat) : Int) 46 i = if i = T then v else m 46 i := by simp [q_up]
    rw [g44, g45, g46]
    by_cases z : i = T
    · rw [if_pos z, if_pos z, if_pos z, z, hb]
      exact ⟨hk, rfl, hv⟩
    · rw [if_neg z, if_neg z, if_neg z]
      exact h.2 i (by omega)
theorem q_addTok (hs : rq_st m) (ht : rq_tx s n m) (hok : rq_okT s n) {T : Nat} (hT : T < 1001) (h : rq_tks s n T m) {b : Nat} (hb : rq_sti s n T = b) (hbn : b < n) : rq (f_X8_addToken ((42 : Nat) : Int) (b : Int) ((rq_en s n b : Nat) : Int) m) (fun m1 => rq_tks s n (T + 1) m1 ∧ rq_fr rq_wTk m m1) := by
  have hn := hok.1
  have hen := rq_en_b (s := s) hbn
  -- the value, sign by sign
  have loop : ∀ (num : Int) (w : List Int → Int), (w [] = 0) → (∀ i, b + i < rq_en s n b → w (rq_cs s b (b + i + 1)) = if num = 0 then rt_lor (rt_lshl (w (rq_cs s b (b + i))) 7) (s (b + i)) else rt_ladd (rt_lmul (w (rq_cs s b (b + i))) 10) (rt_isub (s (b + i)) 48)) → rq (rt_it (b_X8_addToken_42 ((42 : Nat) : Int) (b : Int) ((rq_en s n b : Nat) : Int) num) 4000 (0, (b : Int), m)) (fun e => e = (w (rq_cs s b (rq_en s n b)), m)) := by
    intro num w w0 w1
    refine rq_up (fun i x => x.2.1 = ((b + i : Nat) : Int) ∧ x.1 = w (rq_cs s b (b + i)) ∧ x.2.2 = m) (rq_en s n b - b) (by omega) ?_ ?_ ?_
    · rintro i ⟨x, y, mm⟩ hi ⟨e1, e2, e3⟩
      dsimp only at e1 e2 e3
      subst e1 e2 e3
      have e := w1 i (by omega)
      unfold b_X8_addToken_42 j_X8_addToken_87_42
      dsimp only
      rw [if_neg (by omega), q_g8, Option.bind_some, q_sgn hs ht hn (show b + i < n by omega), Option.bind_some, Option.bind_some, rq_n1 (by omega)]
      by_cases z : num = 0
      · rw [if_pos z] at e
        rw [if_pos z]
        refine rq_some.mpr (rq_inl ⟨?_, ?_, rfl⟩)
        · show ((b + i + 1 : Nat) : Int) = ((b + (i + 1) : Nat) : Int); omega
        · show rt_lor _ _ = w (rq_cs s b (b + (i + 1))); rw [← Nat.add_assoc, e]
      · rw [if_neg z] at e
        rw [if_neg z, q_sgn hs ht hn (show b + i < n by omega), Option.bind_some]
        refine rq_some.mpr (rq_inl ⟨?_, ?_, rfl⟩)
        · show ((b + i + 1 : Nat) : Int) = ((b + (i + 1) : Nat) : Int); omega
        · show rt_ladd _ _ = w (rq_cs s b (b + (i + 1))); rw [← Nat.add_assoc, e]
    · rintro ⟨x, y, mm⟩ ⟨e1, e2, e3⟩
      dsimp only at e1 e2 e3
      subst e1 e2 e3
      unfold b_X8_addToken_42
      dsimp only
      rw [if_pos (by omega), show b + (rq_en s n b - b) = rq_en s n b by omega]
      exact rq_some.mpr (rq_inre rfl)
    · refine ⟨rfl, ?_, rfl⟩
      show (0 : Int) = w (rq_cs s b b)
      have : rq_cs s b b = [] := by unfold rq_cs; rw [Nat.sub_self]; rfl
      rw [this, w0]
  have okb := hok.2 b hbn
  have ch : ∀ c ∈ rq_cs s b (rq_en s n b), 0 ≤ c ∧ c < 128 := fun c hc => by
    obtain ⟨q, h1, h2, rfl⟩ := rq_cs_mem hc
    have := hok.2 q (by omega)
    unfold rq_okS at this
    omega
  have chp : ∀ i, b + i ≤ rq_en s n b → ∀ c ∈ rq_cs s b (b + i), 0 ≤ c ∧ c < 128 := fun i hi c hc => by
    obtain ⟨q, h1, h2, rfl⟩ := rq_cs_mem hc
    have := hok.2 q (by omega)
    unfold rq_okS at this
    omega
  unfold f_X8_addToken j_X8_addToken_23
  rw [q_g8, Option.bind_some, q_sgn hs ht hn hbn, Option.bind_some, q_isDigit, Option.bind_some, rq_isub (by omega) (by omega)]
  have ekd : rq_kd s n b = if rq_dd (s b) = true then (if rq_en s n b - b ≤ 4 then 36 else 38) else if rq_en s n b - b ≤ 8 then (if rq_spf (rq_pk (rq_cs s b (rq_en s n b))) = -1 then (if rq_ll (s b) = true then 35 else 38) else rq_spf (rq_pk (rq_cs s b (rq_en s n b)))) else 38 := by unfold rq_kd; rw [if_pos hbn]
  have evl : rq_vl s n b = if rq_dd (s b) = true then (if rq_en s n b - b ≤ 4 then rq_w10 (rq_cs s b (rq_en s n b)) else 0) else if rq_en s n b - b ≤ 8 then rq_pk (rq_cs s b (rq_en s n b)) else 0 := by unfold rq_vl; rw [if_pos hbn]
  by_cases zd : rq_dd (s b) = true
  · rw [if_pos zd] at ekd evl
    rw [if_pos zd, if_neg (by decide)]
    by_cases zl : rq_en s n b - b ≤ 4
    · rw [if_pos zl] at ekd evl
      rw [if_pos (by omega)]
      have dig : ∀ i, b + i < rq_en s n b → 48 ≤ s (b + i) ∧ s (b + i) ≤ 57 := fun i hi => by
        have nl : ¬ rq_ll (s b) = true := by
          unfold rq_dd at zd
          unfold rq_ll
          simp only [Bool.and_eq_true, decide_eq_true_eq] at zd ⊢
          omega
        have : rq_dd (s (b + i)) = true := by
          by_cases y : i = 0
          · rw [y]; exact zd
          · have e : rq_en s n b = rq_ru rq_dd s n (b + 1) := by unfold rq_en; rw [if_neg nl, if_pos zd]
            rw [e] at hi
            exact (rq_ru_in (by omega) hi).2
        unfold rq_dd at this
        simpa using this
      refine rq_call (loop 1 rq_w10 rfl (fun i hi => ?_)) ?_
      · have dg : ∀ c ∈ rq_cs s b (b + i), 48 ≤ c ∧ c ≤ 57 := fun c hc => by
          obtain ⟨q, h1, h2, rfl⟩ := rq_cs_mem hc
          have := dig (q - b) (by omega)
          rw [show b + (q - b) = q by omega] at this
          exact this
        have wb := rq_w10_b i (rq_cs s b (b + i)) (by rw [rq_cs_len]; omega) dg
        have w4 : (10 : Int) ^ i ≤ 10000 := by
          have : i = 0 ∨ i = 1 ∨ i = 2 ∨ i = 3 := by omega
          rcases this with rfl | rfl | rfl | rfl <;> decide
        have ds := dig i hi
        rw [if_neg (by decide), rq_isub (by omega) (by omega), rq_lmul (by omega) (by omega), rq_ladd (by omega) (by omega), rq_cs_s, rq_w10_s]
      · rintro e rfl
        dsimp only
        rw [q_g8, Option.bind_some, q_sgn hs ht hn hbn, Option.bind_some, q_isLetter, Option.bind_some]
        have go : ∀ o, rq (j_X8_addToken_116 ((42 : Nat) : Int) (b : Int) 1 (rq_w10 (rq_cs s b (rq_en s n b))) o m) (fun m1 => rq_tks s n (T + 1) m1 ∧ rq_fr rq_wTk m m1) := by
          intro o
          unfold j_X8_addToken_116 j_X8_addToken_136
          rw [if_neg (by decide), q_gd8]
          exact rq_call (q_addTok_ hs hT h hb ekd.symm evl.symm) (fun m1 q => rq_some.mpr q)
        split
        · exact go 38
        · exact go 35
    · rw [if_neg zl] at ekd evl
      rw [if_neg (by omega)]
      exact rq_call (q_addTok_ hs hT h hb ekd.symm evl.symm) (fun m1 q => rq_some.mpr q)
  · rw [if_neg zd] at ekd evl
    rw [if_neg zd, if_pos rfl]
    by_cases zl : rq_en s n b - b ≤ 8
    · rw [if_pos zl] at ekd evl
      rw [if_pos (by omega)]
      have pb : ∀ i, i ≤ 8 → (128 : Int) ^ i ≤ 72057594037927936 ∧ (i < 8 → (128 : Int) ^ i < 1125899906842624) := fun i hi => by
        have : i = 0 ∨ i = 1 ∨ i = 2 ∨ i = 3 ∨ i = 4 ∨ i = 5 ∨ i = 6 ∨ i = 7 ∨ i = 8 := by omega
        rcases this with rfl | rfl | rfl | rfl | rfl | rfl | rfl | rfl | rfl <;> exact ⟨by decide, by decide⟩
      have all := rq_pk_b (rq_en s n b - b) (rq_cs s b (rq_en s n b)) (rq_cs_len b _) ch
      have p8 := (pb (rq_en s n b - b) zl).1
      refine rq_call (loop 0 rq_pk rfl (fun i hi => ?_)) ?_
      · have wb := rq_pk_b i (rq_cs s b (b + i)) (by rw [rq_cs_len]; omega) (chp i (by omega))
        have w4 := (pb i (by omega)).2 (by omega)
        have cb : 0 ≤ s (b + i) ∧ s (b + i) < 128 := by
          have := hok.2 (b + i) (by omega)
          unfold rq_okS at this
          omega
        rw [if_pos rfl, rq_pk1 wb.1 (by omega) cb.1 cb.2, rq_cs_s, rq_pk_s]
      · rintro e rfl
        dsimp only
        rw [q_g8, Option.bind_some, q_sgn hs ht hn hbn, Option.bind_some, q_isLetter, Option.bind_some]
        have go : ∀ o, (if rq_spf (rq_pk (rq_cs s b (rq_en s n b))) = -1 then o else rq_spf (rq_pk (rq_cs s b (rq_en s n b)))) = rq_kd s n b → rq (j_X8_addToken_116 ((42 : Nat) : Int) (b : Int) 0 (rq_pk (rq_cs s b (rq_en s n b))) o m) (fun m1 => rq_tks s n (T + 1) m1 ∧ rq_fr rq_wTk m m1) := by
          intro o ho
          unfold j_X8_addToken_116 j_X8_addToken_136
          rw [if_pos rfl, q_spelled (by omega) (by omega), Option.bind_some, q_gd8]
          exact rq_call (q_addTok_ hs hT h hb ho evl.symm) (fun m1 q => rq_some.mpr q)
        by_cases zw : rq_ll (s b) = true
        · rw [if_pos zw] at ekd
          rw [if_pos zw, if_neg (by decide)]
          exact go 35 ekd.symm
        · rw [if_neg zw] at ekd
          rw [if_neg zw, if_pos rfl]
          exact go 38 ekd.symm
    · rw [if_neg zl] at ekd evl
      rw [if_neg (by omega)]
      exact rq_call (q_addTok_ hs hT h hb ekd.symm evl.symm) (fun m1 q => rq_some.mpr q)
/-- all tokens are laid -/
def rq_tk (s : Nat → Int) (n : Nat) (m : rt_M) : Prop := ∃ K, K ≤ 1000 ∧ rq_tks s n (K + 1) m ∧ rq_sti s n K = n ∧ ∀ i, i < K → rq_sti s n i < n
theorem rq_sk_b {p : Nat} (h : p ≤ n) : p ≤ rq_sk' s n p ∧ rq_sk' s n p ≤ n := rq_ru_b h
theorem q_split (hs : rq_st m) (ht : rq_tx s n m) (hok : rq_okT s n) : rq (f_X8_split ((42 : Nat) : Int) m) (fun m1 => rq_tk s n m1 ∧ rq_fr rq_wTk m m1) := by
  have hn := hok.1
  unfold f_X8_split
  rw [q_p8, Option.bind_some]
  have f1 : rq_fr rq_wTk m (rt_up m 42 5 0) := rq_fr.rfl.up rfl
  refine rq_call (rq_up (Q := fun m1 => (∃ T, T ≤ 1000 ∧ rq_tks s n T m1 ∧ (∀ i, i < T → rq_sti s n i < n) ∧ rq_sti s n T = n) ∧ rq_fr rq_wTk m m1) (fun i x => x.2.1 = (i : Int) ∧ (∃ p T : Nat, x.1 = (p : Int) ∧ p ≤ n ∧ i ≤ p ∧ T ≤ p ∧ rq_tks s n T x.2.2 ∧ (∀ i, i < T → rq_sti s n i < n) ∧ rq_sti s n T = rq_sk' s n p) ∧ rq_fr rq_wTk m x.2.2) 1000 (by decide) ?_ ?_ ?_) ?_
  · rintro i ⟨x, y, mm⟩ hi ⟨e1, ⟨p, T, e2, hp, hip, hTp, hk, hlt, hst⟩, hf⟩
    dsimp only at e1 e2 hk hf
    subst e1 e2
    have s1 := rq_st_fr hs hf rq_wTk_st
    have t1 := rq_tx_fr ht hf
    unfold b_X8_split_9 j_X8_split_58_9
    dsimp only
    rw [if_neg (by omega), q_g8, Option.bind_some, t1.1]
    by_cases zp : p < n
    · have hen := rq_en_b (s := s) zp
      rw [if_neg (by omega), q_endOf s1 t1 hn zp, Option.bind_some, q_g8, Option.bind_some, q_sgn s1 t1 hn zp, Option.bind_some, Option.bind_some, q_sgn s1 t1 hn zp, Option.bind_some, rq_n1 (by omega)]
      have blank : s p = 10 ∨ s p = 32 → rq_en s n p = p + 1 ∧ rq_sk' s n p = rq_sk' s n (p + 1) := by
        intro q
        constructor
        · unfold rq_en rq_ll rq_dd
          rw [if_neg (by simp; omega), if_neg (by simp; omega)]
        · have a := rq_ru_b (P := rq_bla) (s := s) (n := n) (p := p + 1) (by omega)
          refine rq_ru_u (by unfold rq_sk'; omega) (by unfold rq_sk'; omega) (fun x h1 h2 => ?_) (fun h => rq_ru_at h)
          by_cases z : x = p
          · rw [z]; unfold rq_bla; rcases q with q | q <;> simp [q]
          · exact (rq_ru_in (by omega) h2).2
      by_cases z1 : s p = 10
      · obtain ⟨b1, b2⟩ := blank (Or.inl z1)
        rw [if_pos z1, b1]
        exact rq_some.mpr (rq_inl ⟨rfl, ⟨p + 1, T, rfl, by omega, by omega, by omega, hk, hlt, by rw [hst, b2]⟩, hf⟩)
      · rw [if_neg z1]
        by_cases z2 : s p = 32
        · obtain ⟨b1, b2⟩ := blank (Or.inr z2)
          rw [if_pos z2, b1]
          exact rq_some.mpr (rq_inl ⟨rfl, ⟨p + 1, T, rfl, by omega, by omega, by omega, hk, hlt, by rw [hst, b2]⟩, hf⟩)
        · have hsk : rq_sk' s n p = p := rq_ru_u (Nat.le_refl p) hp (fun x h1 h2 => by omega) (fun _ => by unfold rq_bla; simp [z1, z2])
          rw [hsk] at hst
          rw [if_neg z2]
          refine rq_call (q_addTok s1 t1 hok (T := T) (by omega) hk hst zp) ?_
          rintro m2 ⟨b1, b2⟩
          refine rq_some.mpr (rq_inl ⟨rfl, ⟨rq_en s n p, T + 1, rfl, hen.2, by omega, by omega, b1, fun j hj => ?_, ?_⟩, hf.trans b2⟩)
          · by_cases z : j = T
            · rw [z, hst]; exact zp
            · exact hlt j (by omega)
          · show rq_nxp s n (rq_sti s n T) = _
            rw [hst]; rfl
    · rw [if_pos (by omega)]
      have ep : p = n := by omega
      refine rq_some.mpr (rq_inr ⟨⟨T, by omega, hk, hlt, ?_⟩, hf⟩)
      rw [hst, ep]
      exact rq_ru_u (Nat.le_refl n) (Nat.le_refl n) (fun x h1 h2 => by omega) (fun q => by omega)
  · rintro ⟨x, y, mm⟩ ⟨e1, ⟨p, T, e2, hp, hip, hTp, hk, hlt, hst⟩, hf⟩
    dsimp only at e1 e2 hk hf
    unfold b_X8_split_9
    dsimp only
    rw [if_pos (by omega)]
    have ep : p = n := by omega
    refine rq_some.mpr (rq_inre ⟨⟨T, by omega, hk, hlt, ?_⟩, hf⟩)
    rw [hst, ep]
    exact rq_ru_u (Nat.le_refl n) (Nat.le_refl n) (fun x h1 h2 => by omega) (fun q => by omega)
  · exact ⟨rfl, ⟨0, 0, rfl, Nat.zero_le n, Nat.le_refl 0, Nat.le_refl 0, ⟨by show rt_up m 42 5 0 42 5 = _; rw [q_up, if_pos ⟨rfl, rfl⟩]; rfl, fun i hi => absurd hi (Nat.not_lt_zero i)⟩, fun i hi => absurd hi (Nat.not_lt_zero i), rfl⟩, f1⟩
  · rintro m1 ⟨⟨T, hT, hk, hlt, hst⟩, f2⟩
    have s1 := rq_st_fr hs f2 rq_wTk_st
    have t1 := rq_tx_fr ht f2
    rw [q_g8, Option.bind_some, t1.1]
    have kn : rq_kd s n n = 37 := by unfold rq_kd; rw [if_neg (Nat.lt_irrefl n)]
    have vn : rq_vl s n n = 0 := by unfold rq_vl; rw [if_neg (Nat.lt_irrefl n)]
    refine rq_call (q_addTok_ s1 (T := T) (by omega) hk hst kn.symm vn.symm) ?_
    rintro m2 ⟨b1, b2⟩
    exact rq_some.mpr ⟨⟨T, hT, b1, hst, hlt⟩, f2.trans b2⟩
end
