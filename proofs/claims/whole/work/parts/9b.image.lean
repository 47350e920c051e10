/-! image, restore -/
def StV (V : Nat → Int32) (C : Cal) (S : Sta) : Prop := (∀ h l, h < cH C → l < 12 → V (3 + (h * 12 + l)) = zi (aS S h l)) ∧ (V 0 = zi (gN S) ∧ V 1 = zi (dN S) ∧ V 2 = zi (kN S)) ∧ (∀ i, i < gN S → V (123 + i * 7) = zi (gL S i) ∧ V (124 + i * 7) = zi (gA S i) ∧ V (125 + i * 7) = bb (gB S i)) ∧ (∀ i, i < dN S → V (126 + i * 7) = zi (dH S i) ∧ V (127 + i * 7) = zi (dL S i) ∧ V (128 + i * 7) = zi (dD S i) ∧ V (129 + i * 7) = bb (dB S i)) ∧ (∀ i, i < kN S → V (263 + i * 2) = zi (kD S i) ∧ V (264 + i * 2) = zi (kL S i))
theorem end_sta {M N : PM} {r : Nat} {V : Nat → Int32} {C : Cal} {S : Sta} (hc : WFC C) (w : WFS C S) (e : mEnd M r V N) (s : StV V C S) : StaM N C S ∧ Kept N C S r := by
  obtain ⟨s1, s2, s3, s4, s5⟩ := s
  obtain ⟨w1, w2, w3⟩ := w.2.2.1
  have hH := hc.1.2.2.1
  have cell : ∀ g i j k, vld g i j → pos g i j = k → mG N g i j = V k := fun g i j k hv hk => by rw [← hk]; exact e.2.1 g i j hv
  have row : ∀ k, k < 279 → mG N 122 r k = V k := e.1
  refine ⟨⟨fun h l hh hl => ?_, ⟨e.2.2.1.1.trans s2.1, e.2.2.1.2.1.trans s2.2.1, e.2.2.1.2.2.trans s2.2.2⟩, fun i hi => ?_, fun i hi => ?_, fun i hi => ?_⟩, ⟨fun h l hh hl => ?_, ⟨(row 0 (by decide)).trans s2.1, (row 1 (by decide)).trans s2.2.1, (row 2 (by decide)).trans s2.2.2⟩, fun i hi => ?_, fun i hi => ?_, fun i hi => ?_⟩⟩
  · rw [cell 115 h l (3 + (h * 12 + l)) (Or.inl ⟨rfl, by omega, hl⟩) (by rw [pos115]; omega)]; exact s1 h l hh hl
  · rw [cell 119 i 0 (123 + i * 7) (Or.inr <| Or.inl ⟨rfl, by omega, by decide⟩) (by rw [pos119]; omega), cell 119 i 1 (124 + i * 7) (Or.inr <| Or.inl ⟨rfl, by omega, by decide⟩) (by rw [pos119]; omega), cell 119 i 2 (125 + i * 7) (Or.inr <| Or.inl ⟨rfl, by omega, by decide⟩) (by rw [pos119]; omega)]; exact s3 i hi
  · rw [cell 120 i 0 (126 + i * 7) (Or.inr <| Or.inr <| Or.inl ⟨rfl, by omega, by decide⟩) (by rw [pos120]; omega), cell 120 i 1 (127 + i * 7) (Or.inr <| Or.inr <| Or.inl ⟨rfl, by omega, by decide⟩) (by rw [pos120]; omega), cell 120 i 2 (128 + i * 7) (Or.inr <| Or.inr <| Or.inl ⟨rfl, by omega, by decide⟩) (by rw [pos120]; omega), cell 120 i 3 (129 + i * 7) (Or.inr <| Or.inr <| Or.inl ⟨rfl, by omega, by decide⟩) (by rw [pos120]; omega)]; exact s4 i hi
  · rw [cell 121 i 0 (263 + i * 2) (Or.inr <| Or.inr <| Or.inr ⟨rfl, by omega, by decide⟩) (by rw [pos121]; omega), cell 121 i 1 (264 + i * 2) (Or.inr <| Or.inr <| Or.inr ⟨rfl, by omega, by decide⟩) (by rw [pos121]; omega)]; exact s5 i hi
  · rw [row _ (by omega)]; exact s1 h l hh hl
  · rw [row _ (by omega), row _ (by omega), row _ (by omega)]; exact s3 i hi
  · rw [row _ (by omega), row _ (by omega), row _ (by omega), row _ (by omega)]; exact s4 i hi
  · rw [row _ (by omega), row _ (by omega)]; exact s5 i hi
def VI (M : PM) (c : Nat) : Int32 := if c < 3 then mI M 99 (32 + c) else if c < 123 then mG M 115 ((c - 3) / 12) ((c - 3) % 12) else if c < 263 then (if (c - 123) % 7 < 3 then mG M 119 ((c - 123) / 7) ((c - 123) % 7) else mG M 120 ((c - 123) / 7) ((c - 123) % 7 - 3)) else mG M 121 ((c - 263) / 2) ((c - 263) % 2)
theorem VI_pos {M : PM} {g i j : Nat} (h : vld g i j) : mG M g i j = VI M (pos g i j) := by
  unfold VI
  rcases h with ⟨rfl, h⟩ | ⟨rfl, h⟩ | ⟨rfl, h⟩ | ⟨rfl, h⟩
  · rw [pos115, if_neg (by omega), if_pos (by omega), show (3 + i * 12 + j - 3) / 12 = i by omega, show (3 + i * 12 + j - 3) % 12 = j by omega]
  · rw [pos119, if_neg (by omega), if_neg (by omega), if_pos (by omega), if_pos (by omega), show (123 + i * 7 + j - 123) / 7 = i by omega, show (123 + i * 7 + j - 123) % 7 = j by omega]
  · rw [pos120, if_neg (by omega), if_neg (by omega), if_pos (by omega), if_neg (by omega), show (126 + i * 7 + j - 123) / 7 = i by omega, show (126 + i * 7 + j - 123) % 7 - 3 = j by omega]
  · rw [pos121, if_neg (by omega), if_neg (by omega), if_neg (by omega), show (263 + i * 2 + j - 263) / 2 = i by omega, show (263 + i * 2 + j - 263) % 2 = j by omega]
theorem VI_sta {M : PM} {C : Cal} {S : Sta} (hc : WFC C) (w : WFS C S) (m : StaM M C S) : StV (VI M) C S := by
  obtain ⟨s1, s2, s3, s4, s5⟩ := m
  obtain ⟨w1, w2, w3⟩ := w.2.2.1
  have hH := hc.1.2.2.1
  have cell : ∀ g i j k, vld g i j → pos g i j = k → VI M k = mG M g i j := fun g i j k hv hk => by rw [← hk]; exact (VI_pos hv).symm
  refine ⟨fun h l hh hl => ?_, ⟨s2.1, s2.2.1, s2.2.2⟩, fun i hi => ?_, fun i hi => ?_, fun i hi => ?_⟩
  · rw [cell 115 h l (3 + (h * 12 + l)) (Or.inl ⟨rfl, by omega, hl⟩) (by rw [pos115]; omega)]; exact s1 h l hh hl
  · rw [cell 119 i 0 (123 + i * 7) (Or.inr <| Or.inl ⟨rfl, by omega, by decide⟩) (by rw [pos119]; omega), cell 119 i 1 (124 + i * 7) (Or.inr <| Or.inl ⟨rfl, by omega, by decide⟩) (by rw [pos119]; omega), cell 119 i 2 (125 + i * 7) (Or.inr <| Or.inl ⟨rfl, by omega, by decide⟩) (by rw [pos119]; omega)]; exact s3 i hi
  · rw [cell 120 i 0 (126 + i * 7) (Or.inr <| Or.inr <| Or.inl ⟨rfl, by omega, by decide⟩) (by rw [pos120]; omega), cell 120 i 1 (127 + i * 7) (Or.inr <| Or.inr <| Or.inl ⟨rfl, by omega, by decide⟩) (by rw [pos120]; omega), cell 120 i 2 (128 + i * 7) (Or.inr <| Or.inr <| Or.inl ⟨rfl, by omega, by decide⟩) (by rw [pos120]; omega), cell 120 i 3 (129 + i * 7) (Or.inr <| Or.inr <| Or.inl ⟨rfl, by omega, by decide⟩) (by rw [pos120]; omega)]; exact s4 i hi
  · rw [cell 121 i 0 (263 + i * 2) (Or.inr <| Or.inr <| Or.inr ⟨rfl, by omega, by decide⟩) (by rw [pos121]; omega), cell 121 i 1 (264 + i * 2) (Or.inr <| Or.inr <| Or.inr ⟨rfl, by omega, by decide⟩) (by rw [pos121]; omega)]; exact s5 i hi
theorem Rel_im {M M1 : PM} {C : Cal} {S' : Sta} {W : Wsh} (h1 : WFC C) (h2 : CalC M C) (h3 : CalM M C) (h7 : WFW C W) (h8 : WisC M C W) (h9 : WisM M C W) (h11 : TapR M) (h12 : CntR M) (w : WFS C S') (c : StaC M1 C S' 16) (m : StaM M1 C S') (im : ImgR M1 C)
    (iI : ∀ q k, (q, k) ∉ [(0, 5), (99, 0), (99, 32), (99, 33), (99, 34), (99, 35), (99, 36)] → (q ≠ 16 ∧ q ≠ 43 ∧ q ≠ 54 ∧ q ≠ 65) → mI M1 q k = mI M q k) (iA : ∀ q, q < 17 ∨ 75 < q → mA M1 q = mA M q) (iB : ∀ q, q ∈ kBl → mB M1 q = mB M q) (iG : ∀ i, mG M1 116 i = mG M 116 i) : Rel M1 := by
  refine ⟨C, S', W, h1, ?_, ?_, w, c, m, h7, ?_, ?_, im, ?_, ?_⟩
  · unfold CalC LawC at h2 ⊢
    simp only [iI 4 4 (by decide) (by decide), iI 9 4 (by decide) (by decide), iI 3 4 (by decide) (by decide), iI 3 5 (by decide) (by decide), iI 3 6 (by decide) (by decide), iI 3 7 (by decide) (by decide), iA (4 + 1) (by decide), iA (4 + 2) (by decide), iA (9 + 1) (by decide), iA (9 + 2) (by decide), iA 8 (by decide), iA 15 (by decide), iB (4 + 3) (by decide), iB (9 + 3) (by decide)]
    exact h2
  · unfold CalM at h3 ⊢
    simp only [iA 103 (by decide), iA 105 (by decide), iA 107 (by decide), iA 109 (by decide), iA 111 (by decide), iA 113 (by decide)]
    exact h3
  · unfold WisC at h8 ⊢
    simp only [iI 76 7 (by decide) (by decide), iI 76 8 (by decide) (by decide), iI 76 9 (by decide) (by decide), iA 77 (by decide), iA 78 (by decide), iA 79 (by decide), iB 80 (by decide)]
    exact h8
  · unfold WisM at h9 ⊢
    simp only [iI 99 24 (by decide) (by decide), iI 99 27 (by decide) (by decide), fun i => iG i]
    exact h9
  · unfold TapR at h11 ⊢
    simp only [iI 1 1 (by decide) (by decide), iI 99 1 (by decide) (by decide), iA 2 (by decide), iA 100 (by decide)]
    exact h11
  · unfold CntR at h12 ⊢
    simp only [iI 0 13 (by decide) (by decide), iI 0 14 (by decide) (by decide), iI 0 15 (by decide) (by decide), iI 0 16 (by decide) (by decide), iI 99 3 (by decide) (by decide), iA 101 (by decide)]
    exact h12
