/-! what the Statement says at the law's entry: the reference's texts -/
abbrev fcT : List Cond := flatC (Jvm.Cond.and given_1 narrow_1)
theorem mem_pos {L W : List Cond} {P : List Nat} (h : (P.map fun n => L[n]?) = W.map some) : ∀ w ∈ W, w ∈ L := by
  intro w hw
  have h1 : some w ∈ W.map some := List.mem_map_of_mem hw
  rw [← h] at h1
  obtain ⟨n, -, hn⟩ := List.mem_map.mp h1
  exact List.mem_of_getElem? hn
def smW (k : Nat) (bs : List Int32) : List Cond := Cond.exactly (.string RX11 k) "java/lang/String" :: Cond.eq (.field (.string RX11 k) "java/lang/String" "coder" "B") (.int 0) :: Cond.arrayOf (.field (.string RX11 k) "java/lang/String" "value" "[B") .byte :: Cond.eq (.length (.field (.string RX11 k) "java/lang/String" "value" "[B")) (.int (Int32.ofNat bs.length)) ::
  (List.range bs.length).map (fun j => Cond.eq (.elem (.field (.string RX11 k) "java/lang/String" "value" "[B") (.int (Int32.ofNat j))) (.int (bs.getD j 0)))
theorem smI_20 : ∀ w ∈ smW 20 [112, 97, 114, 116, 121], w ∈ fcT := mem_pos (P := [649, 650, 651, 652, 653, 654, 655, 656, 657]) (by decide +kernel)
theorem smI_26 : ∀ w ∈ smW 26 [108, 105, 110, 101], w ∈ fcT := mem_pos (P := [658, 659, 660, 661, 662, 663, 664, 665]) (by decide +kernel)
theorem smI_28 : ∀ w ∈ smW 28 [109, 111, 110, 101, 121], w ∈ fcT := mem_pos (P := [666, 667, 668, 669, 670, 671, 672, 673, 674]) (by decide +kernel)
theorem smI_30 : ∀ w ∈ smW 30 [114, 97, 116, 101], w ∈ fcT := mem_pos (P := [675, 676, 677, 678, 679, 680, 681, 682]) (by decide +kernel)
theorem smI_32 : ∀ w ∈ smW 32 [99, 117, 116], w ∈ fcT := mem_pos (P := [683, 684, 685, 686, 687, 688, 689]) (by decide +kernel)
theorem smI_34 : ∀ w ∈ smW 34 [112, 97, 121], w ∈ fcT := mem_pos (P := [690, 691, 692, 693, 694, 695, 696]) (by decide +kernel)
theorem smI_36 : ∀ w ∈ smW 36 [116, 111], w ∈ fcT := mem_pos (P := [697, 698, 699, 700, 701, 702]) (by decide +kernel)
theorem smI_38 : ∀ w ∈ smW 38 [111, 110], w ∈ fcT := mem_pos (P := [703, 704, 705, 706, 707, 708]) (by decide +kernel)
theorem smI_40 : ∀ w ∈ smW 40 [102, 111, 114], w ∈ fcT := mem_pos (P := [709, 710, 711, 712, 713, 714, 715]) (by decide +kernel)
theorem smI_42 : ∀ w ∈ smW 42 [104, 111, 108, 100], w ∈ fcT := mem_pos (P := [716, 717, 718, 719, 720, 721, 722, 723]) (by decide +kernel)
theorem smI_44 : ∀ w ∈ smW 44 [99, 97, 110, 99, 101, 108], w ∈ fcT := mem_pos (P := [724, 725, 726, 727, 728, 729, 730, 731, 732, 733]) (by decide +kernel)
theorem smW_in : ∀ q ∈ strM, ∀ w ∈ smW q.1 q.2.2, w ∈ fcT := by
  unfold strM
  simp only [List.forall_mem_cons]
  exact ⟨smI_20, smI_26, smI_28, smI_30, smI_32, smI_34, smI_36, smI_38, smI_40, smI_42, smI_44, fun _ h => absurd h List.not_mem_nil⟩
theorem str_one {s : State} {args : Array Value} (hq : ∀ c ∈ fcT, c.before args s = true) {q : Nat × String × List Int32} (hm : q ∈ strM) (hl : q.2.2.length < 2 ^ 31) {A : Nat → Prop} (hA : ∀ a : Nat, a < s.heap.size → ¬ A a) :
    ∃ a v : Nat, (va_O "java/lang/String" a A s s.heap ∧ va_OF "java/lang/String" "coder" "B" (.int 0) a A s s.heap ∧ va_OF "java/lang/String" "value" "[B" (.ref v) a A s s.heap ∧ va_T .byte v q.2.2.length (fun j => .int (q.2.2.getD j 0)) A s s.heap) ∧ (Term.string RX11 q.1).eval args s none [] s = some (.ref a) := by
  have hw : ∀ w ∈ smW q.1 q.2.2, w.before args s = true := fun w h => hq w (smW_in q hm w h)
  unfold smW at hw
  simp only [List.forall_mem_cons, List.mem_map, List.mem_range, forall_exists_index, and_imp, forall_apply_eq_imp_iff₂] at hw
  obtain ⟨h1, h2, h3, h4, h5⟩ := hw
  obtain ⟨adK, adV, ⟨g1, -⟩, g2⟩ := vk_Sof (N := 1) (tm := fun _ => Term.string RX11 q.1) (len := [q.2.2.length]) (byt := [q.2.2]) (A := A) (s := s) (args := args) (fun i hi => by rw [show i = 0 by omega]; exact hl) (fun i hi => h1) (fun i hi => h2) (fun i hi => h3) (fun i hi => by rw [show i = 0 by omega]; exact h4) (fun i hi j hj => by rw [show i = 0 by omega] at hj ⊢; exact h5 j hj) (fun i j hi hj hne => absurd (show i = j by omega) hne) hA
  exact ⟨adK 0, adV 0, g1 0 (by decide), g2 0 (by decide)⟩
