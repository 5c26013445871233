/-! a desk changed in one of its numbers -/
theorem rd_fi {D : DaT} {k a k' a' : Nat} {v : Int32} : d_fi (pfi D k a v) k' a' = if k' = k ∧ a' = a then v else d_fi D k' a' := rfl
theorem rd_fl {D : DaT} {k a k' a' : Nat} {v : Int64} : d_fl (pfl D k a v) k' a' = if k' = k ∧ a' = a then v else d_fl D k' a' := rfl
theorem rd_ai {D : DaT} {k a k' a' : Nat} {v : Int32} : d_ai (pai D k a v) k' a' = if k' = k ∧ a' = a then v else d_ai D k' a' := rfl
theorem rd_al {D : DaT} {k a k' a' : Nat} {v : Int64} : d_al (pal D k a v) k' a' = if k' = k ∧ a' = a then v else d_al D k' a' := rfl
theorem ya_inj {B n n' : Nat} : ya B n' = ya B n ↔ n' = n := by unfold ya; omega
theorem ma_inj {B n n' : Nat} : ma B n' = ma B n ↔ n' = n := by unfold ma; omega
theorem pa_inj {B n n' : Nat} : pa B n' = pa B n ↔ n' = n := by unfold pa; omega
def up2n (f : Nat → Nat → Int32) (p m : Nat) (v : Int32) : Nat → Nat → Int32 := fun p' m' => if p' = p ∧ m' = m then v else f p' m'
def ks_cl (K : KT) (v : Int32 × Int32 × Nat × Nat × Nat) : KT := (v, K.2)
def ks_day (K : KT) (v : Int32) : KT := ((v, K.1.2), K.2)
def ks_hr (K : KT) (v : Int32) : KT := ((K.1.1, v, K.1.2.2), K.2)
def ks_df (K : KT) (f : Nat → Bool) : KT := (K.1, (K.2.1.1, K.2.1.2.1, f, K.2.1.2.2.2), K.2.2)
def ks_ba (K : KT) (f : Nat → Nat → Int32) : KT := (K.1, (K.2.1.1, K.2.1.2.1, K.2.1.2.2.1, f, K.2.1.2.2.2.2), K.2.2)
def ks_co (K : KT) (f : Nat → Nat → Int32) : KT := (K.1, (K.2.1.1, K.2.1.2.1, K.2.1.2.2.1, K.2.1.2.2.2.1, f), K.2.2)
def ks_rt (K : KT) (f : Nat → Int32) : KT := (K.1, K.2.1, (K.2.2.1.1, f, K.2.2.1.2.2), K.2.2.2)
def ks_fr (K : KT) (f : Nat → Nat) : KT := (K.1, K.2.1, K.2.2.1, f, k_to K, k_am K, k_mo K, k_du K, k_pr K, k_st K, k_se K, k_he K)
def ks_to (K : KT) (f : Nat → Nat) : KT := (K.1, K.2.1, K.2.2.1, k_fr K, f, k_am K, k_mo K, k_du K, k_pr K, k_st K, k_se K, k_he K)
def ks_am (K : KT) (f : Nat → Int32) : KT := (K.1, K.2.1, K.2.2.1, k_fr K, k_to K, f, k_mo K, k_du K, k_pr K, k_st K, k_se K, k_he K)
def ks_mo (K : KT) (f : Nat → Nat) : KT := (K.1, K.2.1, K.2.2.1, k_fr K, k_to K, k_am K, f, k_du K, k_pr K, k_st K, k_se K, k_he K)
def ks_du (K : KT) (f : Nat → Int32) : KT := (K.1, K.2.1, K.2.2.1, k_fr K, k_to K, k_am K, k_mo K, f, k_pr K, k_st K, k_se K, k_he K)
def ks_pr (K : KT) (f : Nat → Option Nat) : KT := (K.1, K.2.1, K.2.2.1, k_fr K, k_to K, k_am K, k_mo K, k_du K, f, k_st K, k_se K, k_he K)
def ks_st (K : KT) (f : Nat → Int32) : KT := (K.1, K.2.1, K.2.2.1, k_fr K, k_to K, k_am K, k_mo K, k_du K, k_pr K, f, k_se K, k_he K)
def ks_se (K : KT) (f : Nat → Int32) : KT := (K.1, K.2.1, K.2.2.1, k_fr K, k_to K, k_am K, k_mo K, k_du K, k_pr K, k_st K, f, k_he K)
def ks_he (K : KT) (f : Nat → Bool) : KT := (K.1, K.2.1, K.2.2.1, k_fr K, k_to K, k_am K, k_mo K, k_du K, k_pr K, k_st K, k_se K, f)
theorem RepC.fr {D : DaT} {B n : Nat} {K : KT} (h : RepC D B K) (v : Nat) : RepC (pfi D 160 (ya B n) (nI v)) B (ks_fr K (up1 (k_fr K) n v)) := by
  obtain ⟨h0, hp, hm, hy⟩ := h
  refine ⟨by simp [rd_fi]; exact h0, fun p hpp => ⟨by simp [rd_fi]; exact (hp p hpp).1, (hp p hpp).2⟩, fun m hmm => by simp [rd_fi]; exact hm m hmm, fun n' hn' => ?_⟩
  have e := hy n' hn'
  have key : (if n' = n then (nI v) else d_fi D 160 (ya B n')) = (nI (up1 (k_fr K) n v n')) := by
    unfold up1
    split
    · rfl
    · exact e.1
  simp only [rd_fi, ya_inj, true_and]
  simp [key]
  exact ⟨rfl, e.2.1, e.2.2.1, e.2.2.2.1, e.2.2.2.2.1, e.2.2.2.2.2.1, e.2.2.2.2.2.2.1, e.2.2.2.2.2.2.2.1, e.2.2.2.2.2.2.2.2⟩
theorem RepC.to {D : DaT} {B n : Nat} {K : KT} (h : RepC D B K) (v : Nat) : RepC (pfi D 161 (ya B n) (nI v)) B (ks_to K (up1 (k_to K) n v)) := by
  obtain ⟨h0, hp, hm, hy⟩ := h
  refine ⟨by simp [rd_fi]; exact h0, fun p hpp => ⟨by simp [rd_fi]; exact (hp p hpp).1, (hp p hpp).2⟩, fun m hmm => by simp [rd_fi]; exact hm m hmm, fun n' hn' => ?_⟩
  have e := hy n' hn'
  have key : (if n' = n then (nI v) else d_fi D 161 (ya B n')) = (nI (up1 (k_to K) n v n')) := by
    unfold up1
    split
    · rfl
    · exact e.2.1
  simp only [rd_fi, ya_inj, true_and]
  simp [key]
  exact ⟨e.1, rfl, e.2.2.1, e.2.2.2.1, e.2.2.2.2.1, e.2.2.2.2.2.1, e.2.2.2.2.2.2.1, e.2.2.2.2.2.2.2.1, e.2.2.2.2.2.2.2.2⟩
theorem RepC.am {D : DaT} {B n : Nat} {K : KT} (h : RepC D B K) (v : Int32) : RepC (pfi D 162 (ya B n) (v)) B (ks_am K (up1 (k_am K) n v)) := by
  obtain ⟨h0, hp, hm, hy⟩ := h
  refine ⟨by simp [rd_fi]; exact h0, fun p hpp => ⟨by simp [rd_fi]; exact (hp p hpp).1, (hp p hpp).2⟩, fun m hmm => by simp [rd_fi]; exact hm m hmm, fun n' hn' => ?_⟩
  have e := hy n' hn'
  have key : (if n' = n then (v) else d_fi D 162 (ya B n')) = ((up1 (k_am K) n v n')) := by
    unfold up1
    split
    · rfl
    · exact e.2.2.1
  simp only [rd_fi, ya_inj, true_and]
  simp [key]
  exact ⟨e.1, e.2.1, rfl, e.2.2.2.1, e.2.2.2.2.1, e.2.2.2.2.2.1, e.2.2.2.2.2.2.1, e.2.2.2.2.2.2.2.1, e.2.2.2.2.2.2.2.2⟩
theorem RepC.mo {D : DaT} {B n : Nat} {K : KT} (h : RepC D B K) (v : Nat) : RepC (pfi D 163 (ya B n) (nI v)) B (ks_mo K (up1 (k_mo K) n v)) := by
  obtain ⟨h0, hp, hm, hy⟩ := h
  refine ⟨by simp [rd_fi]; exact h0, fun p hpp => ⟨by simp [rd_fi]; exact (hp p hpp).1, (hp p hpp).2⟩, fun m hmm => by simp [rd_fi]; exact hm m hmm, fun n' hn' => ?_⟩
  have e := hy n' hn'
  have key : (if n' = n then (nI v) else d_fi D 163 (ya B n')) = (nI (up1 (k_mo K) n v n')) := by
    unfold up1
    split
    · rfl
    · exact e.2.2.2.1
  simp only [rd_fi, ya_inj, true_and]
  simp [key]
  exact ⟨e.1, e.2.1, e.2.2.1, rfl, e.2.2.2.2.1, e.2.2.2.2.2.1, e.2.2.2.2.2.2.1, e.2.2.2.2.2.2.2.1, e.2.2.2.2.2.2.2.2⟩
theorem RepC.du {D : DaT} {B n : Nat} {K : KT} (h : RepC D B K) (v : Int32) : RepC (pfi D 164 (ya B n) (v)) B (ks_du K (up1 (k_du K) n v)) := by
  obtain ⟨h0, hp, hm, hy⟩ := h
  refine ⟨by simp [rd_fi]; exact h0, fun p hpp => ⟨by simp [rd_fi]; exact (hp p hpp).1, (hp p hpp).2⟩, fun m hmm => by simp [rd_fi]; exact hm m hmm, fun n' hn' => ?_⟩
  have e := hy n' hn'
  have key : (if n' = n then (v) else d_fi D 164 (ya B n')) = ((up1 (k_du K) n v n')) := by
    unfold up1
    split
    · rfl
    · exact e.2.2.2.2.1
  simp only [rd_fi, ya_inj, true_and]
  simp [key]
  exact ⟨e.1, e.2.1, e.2.2.1, e.2.2.2.1, rfl, e.2.2.2.2.2.1, e.2.2.2.2.2.2.1, e.2.2.2.2.2.2.2.1, e.2.2.2.2.2.2.2.2⟩
theorem RepC.pr {D : DaT} {B n : Nat} {K : KT} (h : RepC D B K) (v : Option Nat) : RepC (pfi D 165 (ya B n) (pE v)) B (ks_pr K (up1 (k_pr K) n v)) := by
  obtain ⟨h0, hp, hm, hy⟩ := h
  refine ⟨by simp [rd_fi]; exact h0, fun p hpp => ⟨by simp [rd_fi]; exact (hp p hpp).1, (hp p hpp).2⟩, fun m hmm => by simp [rd_fi]; exact hm m hmm, fun n' hn' => ?_⟩
  have e := hy n' hn'
  have key : (if n' = n then (pE v) else d_fi D 165 (ya B n')) = (pE (up1 (k_pr K) n v n')) := by
    unfold up1
    split
    · rfl
    · exact e.2.2.2.2.2.1
  simp only [rd_fi, ya_inj, true_and]
  simp [key]
  exact ⟨e.1, e.2.1, e.2.2.1, e.2.2.2.1, e.2.2.2.2.1, rfl, e.2.2.2.2.2.2.1, e.2.2.2.2.2.2.2.1, e.2.2.2.2.2.2.2.2⟩
theorem RepC.st {D : DaT} {B n : Nat} {K : KT} (h : RepC D B K) (v : Int32) : RepC (pfi D 166 (ya B n) (v)) B (ks_st K (up1 (k_st K) n v)) := by
  obtain ⟨h0, hp, hm, hy⟩ := h
  refine ⟨by simp [rd_fi]; exact h0, fun p hpp => ⟨by simp [rd_fi]; exact (hp p hpp).1, (hp p hpp).2⟩, fun m hmm => by simp [rd_fi]; exact hm m hmm, fun n' hn' => ?_⟩
  have e := hy n' hn'
  have key : (if n' = n then (v) else d_fi D 166 (ya B n')) = ((up1 (k_st K) n v n')) := by
    unfold up1
    split
    · rfl
    · exact e.2.2.2.2.2.2.1
  simp only [rd_fi, ya_inj, true_and]
  simp [key]
  exact ⟨e.1, e.2.1, e.2.2.1, e.2.2.2.1, e.2.2.2.2.1, e.2.2.2.2.2.1, rfl, e.2.2.2.2.2.2.2.1, e.2.2.2.2.2.2.2.2⟩
theorem RepC.se {D : DaT} {B n : Nat} {K : KT} (h : RepC D B K) (v : Int32) : RepC (pfi D 167 (ya B n) (v)) B (ks_se K (up1 (k_se K) n v)) := by
  obtain ⟨h0, hp, hm, hy⟩ := h
  refine ⟨by simp [rd_fi]; exact h0, fun p hpp => ⟨by simp [rd_fi]; exact (hp p hpp).1, (hp p hpp).2⟩, fun m hmm => by simp [rd_fi]; exact hm m hmm, fun n' hn' => ?_⟩
  have e := hy n' hn'
  have key : (if n' = n then (v) else d_fi D 167 (ya B n')) = ((up1 (k_se K) n v n')) := by
    unfold up1
    split
    · rfl
    · exact e.2.2.2.2.2.2.2.1
  simp only [rd_fi, ya_inj, true_and]
  simp [key]
  exact ⟨e.1, e.2.1, e.2.2.1, e.2.2.2.1, e.2.2.2.2.1, e.2.2.2.2.2.1, e.2.2.2.2.2.2.1, rfl, e.2.2.2.2.2.2.2.2⟩
theorem RepC.he {D : DaT} {B n : Nat} {K : KT} (h : RepC D B K) (v : Bool) : RepC (pfi D 168 (ya B n) (b2i v)) B (ks_he K (up1 (k_he K) n v)) := by
  obtain ⟨h0, hp, hm, hy⟩ := h
  refine ⟨by simp [rd_fi]; exact h0, fun p hpp => ⟨by simp [rd_fi]; exact (hp p hpp).1, (hp p hpp).2⟩, fun m hmm => by simp [rd_fi]; exact hm m hmm, fun n' hn' => ?_⟩
  have e := hy n' hn'
  have key : (if n' = n then (b2i v) else d_fi D 168 (ya B n')) = (b2i (up1 (k_he K) n v n')) := by
    unfold up1
    split
    · rfl
    · exact e.2.2.2.2.2.2.2.2
  simp only [rd_fi, ya_inj, true_and]
  simp [key]
  exact ⟨e.1, e.2.1, e.2.2.1, e.2.2.2.1, e.2.2.2.2.1, e.2.2.2.2.2.1, e.2.2.2.2.2.2.1, e.2.2.2.2.2.2.2.1, rfl⟩
