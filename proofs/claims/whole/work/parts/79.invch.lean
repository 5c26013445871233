/-! the invariant behind each call that changes the desk -/
theorem inB_ix {x : Int32} {n : Nat} (hn : n < 2 ^ 31) (h : inB x n = true) : iN x < n := by
  obtain ⟨j, h1, rfl⟩ := (inB_iff hn).mp h
  unfold iN
  rw [nI_clamp (by omega)]
  exact h1
theorem inR_I {x lo hi : Int32} (h : inR x lo hi = true) : lo.toInt ≤ x.toInt ∧ x.toInt ≤ hi.toInt := by
  unfold inR at h
  rw [decide_eq_true_iff] at h
  exact ⟨Int32.le_iff_toInt_le.mp h.1, Int32.le_iff_toInt_le.mp h.2⟩
theorem inv_deposit {K : KT} {c : Nat} {x m a : Int32} (h : InvK K c) (hc : c + 1 ≤ 1000) : InvK (ansK K (pDeposit K x m a)) (c + 1) := by
  have hw := h.1
  unfold pDeposit
  by_cases c1 : inB x (k_np K) = true ∧ inB m (k_nm K) = true
  · rw [if_pos c1]
    by_cases c2 : inR a 1 100000 = true
    · rw [if_pos c2]
      have hb := inR_I c2
      rw [show (1 : Int32).toInt = 1 from rfl, show (100000 : Int32).toInt = 100000 from rfl] at hb
      exact inv_addB h (inB_ix (by have := hw.1; omega) c1.1) (inB_ix (by have := hw.2.1; omega) c1.2) ⟨by omega, hb.2⟩ hc
    · rw [if_neg c2]
      exact h.mono (by omega) hc
  · rw [if_neg c1]
    exact h.mono (by omega) hc
theorem inv_subB {K : KT} {c p m : Nat} {a : Int32} (h : InvK K c) (hp : p < k_np K) (hm : m < k_nm K) (ha : 1 ≤ a.toInt ∧ a.toInt ≤ 100000) (hle : a ≤ k_ba K p m) : InvK (ks_ba K (up2n (k_ba K) p m (k_ba K p m + -a))) c := by
  have hle := Int32.le_iff_toInt_le.mp hle
  have hB := h.run.2.2.2
  have hw := h.1.2.1
  obtain ⟨h1, h2, h3, ⟨h4, h5⟩, ⟨h6, h7⟩, h8⟩ := h
  refine ⟨h1, h2, h3, ⟨fun q hq u hu1 hu2 => ?_, fun q hq u hu => ?_⟩, ⟨h6, h7⟩, h8⟩
  · show up2n (k_ba K) p m (k_ba K p m + -a) q u = 0
    have hu1 : k_nm K ≤ u := hu1
    unfold up2n
    rw [if_neg (by omega)]
    exact h4 q hq u hu1 hu2
  · have hq : q < k_np K := hq
    have hb := h5 q hq u hu
    show -(10000000 + 100000 * (dnN K : Int)) ≤ (up2n (k_ba K) p m (k_ba K p m + -a) q u).toInt ∧ (up2n (k_ba K) p m (k_ba K p m + -a) q u).toInt ≤ 100000 * ((c : Int) + (dnN K : Int))
    have hbb := hB p hp m (by omega)
    have hn : (-a).toInt = -a.toInt := t32_neg (by omega)
    unfold up2n
    by_cases c1 : q = p ∧ u = m
    · obtain ⟨rfl, rfl⟩ := c1
      rw [if_pos ⟨rfl, rfl⟩, t32_add (by omega) (by omega), hn]
      omega
    · rw [if_neg c1]
      exact hb
theorem inv_withdraw {K : KT} {c : Nat} {x m a : Int32} (h : InvK K c) (hc : c + 1 ≤ 1000) : InvK (ansK K (pWithdraw K x m a)) (c + 1) := by
  have hw := h.1
  refine InvK.mono (c := c) ?_ (by omega) hc
  unfold pWithdraw
  by_cases c1 : inB x (k_np K) = true ∧ inB m (k_nm K) = true
  · rw [if_pos c1]
    by_cases c2 : inR a 1 100000 = true
    · rw [if_pos c2]
      by_cases c3 : a ≤ k_ba K (iN x) (iN m)
      · rw [if_pos c3]
        have hb := inR_I c2
        rw [show (1 : Int32).toInt = 1 from rfl, show (100000 : Int32).toInt = 100000 from rfl] at hb
        exact inv_subB h (inB_ix (by have := hw.1; omega) c1.1) (inB_ix (by have := hw.2.1; omega) c1.2) hb c3
      · rw [if_neg c3]; exact h
    · rw [if_neg c2]; exact h
  · rw [if_neg c1]; exact h
theorem pledge_room {K : KT} {c : Nat} {a : Int32} (h : InvK K c) (hc : c + 1 ≤ 1000) : ∀ j u, j < k_np K → u < k_nm K → inR a (-100000) 100000 = true → ((a ≤ k_ba K j u ∨ ¬ 0 < a) ∧ -a ≤ k_co K j u) → RoomOk (mvC K j u a) := by
  intro j u hj hu h1 h2
  have hb := inR_I h1
  rw [show (-100000 : Int32).toInt = -100000 from rfl, show (100000 : Int32).toInt = 100000 from rfl] at hb
  exact inv_room (inv_mvC h hj hu hb h2.1 h2.2 hc)
theorem inv_pledge {K : KT} {c : Nat} {x m a : Int32} (h : InvK K c) (hc : c + 1 ≤ 1000) : InvK (ansK K (pPledge K x m a)) (c + 1) := by
  have hw := h.1
  have h0 := h.mono (show c ≤ c + 1 by omega) hc
  unfold pPledge
  by_cases c1 : inB x (k_np K) = true ∧ inB m (k_nm K) = true
  · rw [if_pos c1]
    by_cases c2 : ¬ a = 0 ∧ inR a (-100000) 100000 = true
    · rw [if_pos c2]
      by_cases c3 : (a ≤ k_ba K (iN x) (iN m) ∨ ¬ 0 < a) ∧ -a ≤ k_co K (iN x) (iN m)
      · rw [if_pos c3]
        by_cases c4 : 0 ≤ a ∨ 0 ≤ (room (mvC K (iN x) (iN m) a) (iN x)).toInt32
        · rw [if_pos c4]
          have hb := inR_I c2.2
          rw [show (-100000 : Int32).toInt = -100000 from rfl, show (100000 : Int32).toInt = 100000 from rfl] at hb
          exact inv_mvC h (inB_ix (by have := hw.1; omega) c1.1) (inB_ix (by have := hw.2.1; omega) c1.2) hb c3.1 c3.2 hc
        · rw [if_neg c4]; exact h0
      · rw [if_neg c3]; exact h0
    · rw [if_neg c2]; exact h0
  · rw [if_neg c1]; exact h0
theorem inv_setRate {K : KT} {c : Nat} {m a : Int32} (h : InvK K c) (hc : c + 1 ≤ 1000) : InvK (ansK K (pSetRate K m a)) (c + 1) := by
  refine InvK.mono (c := c) ?_ (by omega) hc
  unfold pSetRate
  by_cases c1 : inB m (k_nm K) = true
  · rw [if_pos c1]
    by_cases c2 : inR a 1 1000 = true
    · rw [if_pos c2]
      have hb := inR_I c2
      rw [show (1 : Int32).toInt = 1 from rfl, show (1000 : Int32).toInt = 1000 from rfl] at hb
      obtain ⟨h1, h2, h3, h4⟩ := h
      refine ⟨h1, h2, fun u hu => ?_, h4⟩
      show 0 < (up1 (k_rt K) (iN m) a u).toInt ∧ (up1 (k_rt K) (iN m) a u).toInt ≤ 1000
      by_cases c3 : u = iN m
      · rw [c3, u1_eq]; omega
      · rw [u1_no c3]; exact h3 u hu
    · rw [if_neg c2]; exact h
  · rw [if_neg c1]; exact h
theorem inv_amend {K : KT} {c : Nat} {n a : Int32} (h : InvK K c) (hc : c + 1 ≤ 1000) : InvK (ansK K (pAmend K n a)) (c + 1) := by
  refine InvK.mono (c := c) ?_ (by omega) hc
  unfold pAmend
  by_cases c1 : inB n (k_ny K) = true
  · rw [if_pos c1]
    by_cases c2 : inR a 1 100000 = true
    · rw [if_pos c2]
      by_cases c3 : k_st K (iN n) = 0
      · rw [if_pos c3]
        obtain ⟨v, v1, v2, v3⟩ := inR_ix (n := 100000) (by decide) c2
        obtain ⟨h1, h2, h3⟩ := h
        refine ⟨h1, ⟨h2.1, h2.2.1, fun u hu => ?_⟩, h3⟩
        show ∃ b : Nat, 1 ≤ b ∧ b ≤ 100000 ∧ up1 (k_am K) (iN n) a u = nI b
        by_cases c4 : u = iN n
        · rw [c4, u1_eq]; exact ⟨v, v1, v2, v3⟩
        · rw [u1_no c4]; exact h2.2.2 u hu
      · rw [if_neg c3]; exact h
    · rw [if_neg c2]; exact h
  · rw [if_neg c1]; exact h
theorem inv_putOff {K : KT} {c : Nat} {n a : Int32} (h : InvK K c) (hc : c + 1 ≤ 1000) : InvK (ansK K (pPutOff K n a)) (c + 1) := by
  refine InvK.mono (c := c) ?_ (by omega) hc
  unfold pPutOff
  by_cases c1 : inB n (k_ny K) = true
  · rw [if_pos c1]
    by_cases c2 : inR a 1 30 = true
    · rw [if_pos c2]
      by_cases c3 : k_st K (iN n) = 0
      · rw [if_pos c3]; exact h
      · rw [if_neg c3]; exact h
    · rw [if_neg c2]; exact h
  · rw [if_neg c1]; exact h
theorem inv_pass' {K : KT} {c : Nat} {x : Int32} (h : InvK K c) (hc : c + 1 ≤ 1000) : InvK (ansK K (pPass K x)) (c + 1) := by
  refine InvK.mono (c := c) ?_ (by omega) hc
  unfold pPass
  by_cases c1 : inR x 1 100 = true
  · rw [if_pos c1]; exact inv_pass h (iN x)
  · rw [if_neg c1]; exact h
/-! telling -/
def RstK (K : KT) (c : Nat) : Prop := RtK K ∧ (ZrK K ∧ BndK K c) ∧ (CoB K c ∧ LiK K)
theorem InvK.rst {K : KT} {c : Nat} (h : InvK K c) : RstK K c := ⟨h.2.2.1, h.2.2.2.1, h.2.2.2.2.1⟩
theorem coS_same {K K1 : KT} {p : Nat} (h : ∀ m, m < 5 → k_co K1 p m = k_co K p m) : ∀ i, i ≤ 5 → coS K1 p i = coS K p i
  | 0, _ => rfl
  | i + 1, hi => by
    unfold coS
    rw [coS_same h i (by omega), h i (by omega)]
theorem coS_zero {K1 : KT} {p : Nat} (h : ∀ m, m < 5 → k_co K1 p m = 0) : ∀ i, i ≤ 5 → coS K1 p i = 0
  | 0, _ => rfl
  | i + 1, hi => by
    unfold coS
    rw [coS_zero h i (by omega), h i (by omega)]
    rfl
theorem rst_addP {K : KT} {c v : Nat} {w : List Nat} (h : RstK K c) (hv : v ≤ 1000000) : RstK (addP K w (nI v)) c := by
  obtain ⟨h3, ⟨h4, h5⟩, ⟨h6, h7⟩⟩ := h
  have eb : ∀ p m, k_ba (addP K w (nI v)) p m = if p = k_np K then 0 else k_ba K p m := fun _ _ => rfl
  have ec : ∀ p m, k_co (addP K w (nI v)) p m = if p = k_np K then 0 else k_co K p m := fun _ _ => rfl
  have ed : dnN (addP K w (nI v)) = dnN K := rfl
  refine ⟨h3, ⟨fun p hp m h1 h2 => ?_, fun p hp m hm => ?_⟩, ⟨fun p hp => ⟨fun m hm => ?_, ?_⟩, fun p hp => ?_⟩⟩
  · have hp : p < k_np K + 1 := hp
    rw [eb]
    by_cases c1 : p = k_np K
    · rw [if_pos c1]
    · rw [if_neg c1]; exact h4 p (by omega) m h1 h2
  · have hp : p < k_np K + 1 := hp
    rw [eb, ed]
    by_cases c1 : p = k_np K
    · rw [if_pos c1, show (0 : Int32).toInt = 0 from rfl]; omega
    · rw [if_neg c1]; exact h5 p (by omega) m hm
  · have hp : p < k_np K + 1 := hp
    rw [ec]
    by_cases c1 : p = k_np K
    · rw [if_pos c1]; exact Int.le_refl _
    · rw [if_neg c1]; exact (h6 p (by omega)).1 m hm
  · have hp : p < k_np K + 1 := hp
    by_cases c1 : p = k_np K
    · rw [coS_zero (fun m _ => by rw [ec, if_pos c1]) 5 (Nat.le_refl _)]; omega
    · rw [coS_same (K := K) (fun m _ => by rw [ec, if_neg c1]) 5 (Nat.le_refl _)]
      exact (h6 p (by omega)).2
  · have hp : p < k_np K + 1 := hp
    show 0 ≤ (up1 (k_li K) (k_np K) (nI v) p).toInt ∧ (up1 (k_li K) (k_np K) (nI v) p).toInt ≤ 1000000
    by_cases c1 : p = k_np K
    · rw [c1, u1_eq, nI_toInt (by omega)]; omega
    · rw [u1_no c1]; exact h7 p (by omega)
theorem rst_addM {K : KT} {c v : Nat} {w : List Nat} {x : Int32} (h : RstK K c) (hv : 1 ≤ v ∧ v ≤ 1000) : RstK (addM K w (nI v) x) c := by
  obtain ⟨h3, ⟨h4, h5⟩, h6⟩ := h
  refine ⟨fun m hm => ?_, ⟨fun p hp m h1 h2 => h4 p hp m (Nat.le_trans (Nat.le_succ _) h1) h2, h5⟩, h6⟩
  have hm : m < k_nm K + 1 := hm
  show 0 < (up1 (k_rt K) (k_nm K) (nI v) m).toInt ∧ (up1 (k_rt K) (k_nm K) (nI v) m).toInt ≤ 1000
  by_cases c1 : m = k_nm K
  · rw [c1, u1_eq, nI_toInt (by omega)]; omega
  · rw [u1_no c1]; exact h3 m (by omega)
theorem rst_dn {K K1 : KT} {c : Nat} (h : RstK K c) (e1 : k_np K1 = k_np K) (e2 : k_nm K1 = k_nm K) (e3 : k_rt K1 = k_rt K) (e4 : k_ba K1 = k_ba K) (e5 : k_co K1 = k_co K) (e6 : k_li K1 = k_li K) (hd : dnN K ≤ dnN K1) : RstK K1 c := by
  obtain ⟨h3, ⟨h4, h5⟩, ⟨h6, h7⟩⟩ := h
  refine ⟨fun m hm => by rw [e3]; exact h3 m (e2 ▸ hm), ⟨fun p hp m h1 h2 => by rw [e4]; exact h4 p (e1 ▸ hp) m (e2 ▸ h1) h2, fun p hp m hm => ?_⟩, ⟨fun p hp => ⟨fun m hm => by rw [e5]; exact (h6 p (e1 ▸ hp)).1 m hm, ?_⟩, fun p hp => by rw [e6]; exact h7 p (e1 ▸ hp)⟩⟩
  · have := h5 p (e1 ▸ hp) m hm
    rw [e4]
    omega
  · rw [coS_same (K := K) (fun m _ => by rw [e5]) 5 (Nat.le_refl _)]
    exact (h6 p (e1 ▸ hp)).2
theorem dn_addY {K : KT} {a b m : Nat} {x y : Int32} : dnN K ≤ dnN (addY K a b x m y) := by
  have e : cnN (dnT K) (k_ny K) = cnN (dnT (addY K a b x m y)) (k_ny K) := cnN_congr _ (fun n hn => by
    unfold dnT
    rw [show k_st (addY K a b x m y) n = up1 (k_st K) (k_ny K) 0 n from rfl, u1_no (by omega)])
  show cnN (dnT K) (k_ny K) ≤ cnN (dnT (addY K a b x m y)) (k_ny K) + _
  rw [e]
  exact Nat.le_add_right _ _
theorem rst_link {K : KT} {q c : Nat} (h : RstK K c) : RstK (linkK K q) c := h
theorem dn_callOff {K : KT} {n : Nat} : dnN K ≤ dnN (callOffK K n) := by
  show cnN (dnT K) (k_ny K) ≤ cnN (dnT (callOffK K n)) (k_ny K)
  refine cnN_mono _ (fun q hq h => ?_)
  unfold dnT at h ⊢
  rw [show k_st (callOffK K n) q = up1 (k_st K) n 3 q from rfl]
  by_cases c1 : q = n
  · rw [c1, u1_eq]; rfl
  · rw [u1_no c1]; exact h
theorem tellS_rst {T : List Nat} {K K1 : KT} {s c : Nat} (h : RstK K c) (hk : tellS T K s = .ok K1) : RstK K1 c := by
  unfold tellS at hk
  split at hk
  · unfold tellP at hk
    split at hk
    · cases hk
    split at hk
    · cases hk
    split at hk
    · split at hk
      · rename_i hv
        cases hk
        exact rst_addP h hv
      · cases hk
    · cases hk
      exact rst_addP (v := 0) h (by omega)
  split at hk
  · unfold tellM at hk
    split at hk
    · cases hk
    split at hk
    · cases hk
    split at hk
    · cases hk
    rename_i hv
    split at hk
    · cases hk
    cases hk
    exact rst_addM h (Decidable.not_not.mp hv)
  split at hk
  · unfold tellY at hk
    split at hk
    · cases hk
    split at hk
    · cases hk
    split at hk
    · cases hk
    unfold tellY2 at hk
    split at hk
    · cases hk
    split at hk
    · cases hk
    split at hk
    · cases hk
    unfold tellY3 at hk
    split at hk
    · cases hk
    split at hk
    · split at hk
      · cases hk
        exact rst_link (rst_dn h rfl rfl rfl rfl rfl rfl dn_addY)
      · cases hk
    · cases hk
      exact rst_dn h rfl rfl rfl rfl rfl rfl dn_addY
  split at hk
  · unfold tellH at hk
    split at hk
    · cases hk
      exact h
    · cases hk
  split at hk
  · unfold tellC at hk
    split at hk
    · cases hk
      exact rst_dn h rfl rfl rfl rfl rfl rfl dn_callOff
    · cases hk
  · cases hk
    exact h
theorem tellR_rst {T : List Nat} {c : Nat} : ∀ (n : Nat) (K K1 : KT) (s : Nat), RstK K c → tellR T n K s = .ok K1 → RstK K1 c
  | 0, K, K1, s, h, hk => by cases hk; exact h
  | n + 1, K, K1, s, h, hk => by
    rw [tellR] at hk
    split at hk
    · cases hk; exact h
    split at hk
    · cases hk
    · rename_i K2 hK2
      exact tellR_rst n _ _ _ (tellS_rst h hK2) hk
theorem inv_teach {T : List Nat} {K : KT} {c : Nat} (h : InvK K c) (hc : c + 1 ≤ 1000) : InvK (teachR T K).2.2 (c + 1) := by
  obtain ⟨g1, g2⟩ := teachR_ok (T := T) h.1 h.2.1
  have g3 : RstK (teachR T K).2.2 c := by
    unfold teachR
    split
    · split
      · exact h.rst
      · rename_i K1 h1
        exact tellR_rst _ _ _ _ h.rst h1
    · exact h.rst
  exact InvK.mono (c := c) ⟨g1, g2, g3.1, g3.2.1, g3.2.2, h.2.2.2.2.2⟩ (by omega) hc
