theorem s_readsAll {S : Sg} {L : Nat × (Nat → Nat)} {a i : Nat} (h : LM S L (a + 1)) (hL : L.1 ≤ 96 ∧ ∀ k, k < L.1 → L.2 k ≤ 255) (ha : a < L.1) (hd : dgb (L.2 a) ≠ 0) (hs : sst L.2 (a + 1) = some (dgb (L.2 a), true)) (hi : S.1 140 31 = nI i) (hi2 : i + 9 ≤ 297) : wp (f_X7_readsAll (nI (L.2 a)) S) (Rd L S a i (cnt (L.2 a))) := by
  unfold f_X7_readsAll
  have many : ∀ p, p = dgb (L.2 a) → p ≤ 9 → (∀ k, nums L.2 a k = vl L.2 (a + 1 + k) 1) → cnt (L.2 a) = p → wp (bd (f_X7_readsMany (nI p) S) (u2 fun r T => some (r, T))) (Rd L S a i (cnt (L.2 a))) := fun p ep hp hn hc => by
    refine wp_bdm (s_readsMany (d := 0) (p := p) h hL (by omega) hp (by rw [hs, ep, Nat.zero_add]) hi (by omega)) ?_
    rintro ⟨r, U⟩ (⟨e, g1, g2, g3, g4, g5⟩ | ⟨e, k, g1, g2, g3⟩)
    · refine wp_u2 (wp_some (Or.inl ⟨e, by rw [← ep]; exact g1, by rw [← ep]; exact g2, by rw [← ep]; exact g3, fun k hk => ?_, g5.mono (rm_rm hp) fun _ _ q => q⟩))
      rw [hn k]; exact g4 k (by omega)
    · exact wp_u2 (wp_some (Or.inr ⟨e, k, g1, g2, g3.mono (rm_rm hp) fun _ _ q => q⟩))
  have fail : ∀ (U : Sg) (k : Nat), U.1 140 29 = nI k → (k ≤ 96 ∧ isMis L (nI k)) → Fm (rmI i 9) noJ S U → Rd L S a i (cnt (L.2 a)) (0, U) := fun U k a1 a2 a3 => Or.inr ⟨rfl, k, a1, a2, a3⟩
  have twoD : dgb (L.2 a) = 3 → sst L.2 (a + 1) = some (3, true) → cnt (L.2 a) = 2 → (∀ k, nums L.2 a k = if k = 0 then vl L.2 (a + 1) 1 else vl L.2 (a + 2) 2) → wp (bd (f_X7_readsDigits (1 : Int32) S) (u2 fun r_1 S_1 => if r_1 = 0 then (some ((0 : Int32), S_1)) else (bd (f_X7_readsDigits (2 : Int32) S_1) (u2 fun r_2 S_2 => lt (if r_2 = 0 then (0 : Int32) else (1 : Int32)) fun x_1 => some (x_1, S_2))))) (Rd L S a i (cnt (L.2 a))) := fun d3 hs c2 hn => by
    refine wp_bd (rd_one (p := 1) (d := 2) h hL (by omega) (by omega) hs hi ⟨Nat.le_refl _, by omega⟩ hi2 Fm.rf (fun U1 s1 n1 l1 v1 i1 o1 f1 => ?_) fun U k u1 u2 u3 => wp_u2 (wp_ifp rfl (wp_some (fail U k u1 u2 u3))))
    refine wp_u2 (wp_ifn (by decide) (wp_bd (rd_one (p := 2) (d := 0) l1 hL n1 (by omega) s1 i1 ⟨by omega, by omega⟩ hi2 f1 (fun U3 s3 n3 l3 v3 i3 o3 f3 => ?_) fun U k u1 u2 u3 => wp_u2 (wp_some (fail U k u1 u2 u3)))))
    refine wp_u2 (wp_some (Or.inl ⟨rfl, by rw [d3]; exact s3, by rw [d3]; omega, by rw [d3]; exact l3, fun k hk => ?_, f3⟩))
    rw [hn]
    have : k = 0 ∨ k = 1 := by omega
    rcases this with rfl | rfl
    · exact (o3 _ (by omega)).trans v1
    · exact v3
  refine wp_lt ?_
  rcases dgb_known hd with e | e | e | e | e | e | e | e
  · have d6 : dgb (L.2 a) = 6 := by rw [e]; rfl
    have c3 : cnt (L.2 a) = 3 := by rw [e]; rfl
    rw [d6] at hs
    refine wp_ifp (by rw [e]; rfl) ?_
    refine wp_bd (rd_one (p := 2) (d := 4) h hL (by omega) (by omega) hs hi ⟨Nat.le_refl _, by omega⟩ hi2 Fm.rf (fun U1 s1 n1 l1 v1 i1 o1 f1 => ?_) fun U k u1 u2 u3 => wp_u2 (wp_ifp rfl (wp_some (fail U k u1 u2 u3))))
    refine wp_u2 (wp_ifn (by decide) (wp_bd (rd_one (p := 2) (d := 2) l1 hL n1 (by omega) s1 i1 ⟨by omega, by omega⟩ hi2 f1 (fun U2 s2 n2 l2 v2 i2 o2 f2 => ?_) fun U k u1 u2 u3 => wp_u2 (wp_ifp rfl (wp_some (fail U k u1 u2 u3))))))
    refine wp_u2 (wp_ifn (by decide) (wp_bd (rd_one (p := 2) (d := 0) l2 hL n2 (by omega) s2 i2 ⟨by omega, by omega⟩ hi2 f2 (fun U3 s3 n3 l3 v3 i3 o3 f3 => ?_) fun U k u1 u2 u3 => wp_u2 (wp_some (fail U k u1 u2 u3)))))
    refine wp_u2 (wp_some (Or.inl ⟨rfl, by rw [d6]; exact s3, by rw [d6]; omega, by rw [d6]; exact l3, fun k hk => ?_, f3⟩))
    have hn : nums L.2 a k = vl L.2 (a + 1 + 2 * k) 2 := if_pos e
    rw [hn]
    have : k = 0 ∨ k = 1 ∨ k = 2 := by omega
    rcases this with rfl | rfl | rfl
    · exact ((o3 _ (by omega)).trans (o2 _ (by omega))).trans v1
    · exact (o3 _ (by omega)).trans v2
    · exact v3
  · have d3 : dgb (L.2 a) = 3 := by rw [e]; rfl
    rw [d3] at hs
    refine wp_ifn (by rw [e]; decide) (wp_ifp (by rw [e]; rfl) ?_)
    exact twoD d3 hs (by rw [e]; rfl) (fun k => by unfold nums; rw [if_neg (by omega), if_pos (by omega)])
  · exact wp_ifn (by rw [e]; decide) (wp_ifn (by rw [e]; decide) (wp_ifn (by rw [e]; decide) (wp_ifn (by rw [e]; decide) (wp_ifn (by rw [e]; decide) (wp_ifn (by rw [e]; decide) (many 8 (by rw [e]; rfl) (by omega) (fun k => by unfold nums; rw [if_neg (by omega), if_neg (by omega), if_neg (by omega)]) (by rw [e]; rfl)))))))
  · have d2 : dgb (L.2 a) = 2 := by rw [e]; rfl
    have c1 : cnt (L.2 a) = 1 := by rw [e]; rfl
    rw [d2] at hs
    refine wp_ifn (by rw [e]; decide) (wp_ifn (by rw [e]; decide) (wp_ifp (by rw [e]; rfl) ?_))
    refine wp_bd (rd_one (p := 2) (d := 0) h hL (by omega) (by omega) hs hi ⟨Nat.le_refl _, by omega⟩ hi2 Fm.rf (fun U1 s1 n1 l1 v1 i1 o1 f1 => wp_u2 (wp_some (Or.inl ⟨rfl, by rw [d2]; exact s1, by rw [d2]; omega, by rw [d2]; exact l1, fun k hk => ?_, f1⟩))) fun U k u1 u2 u3 => wp_u2 (wp_some (fail U k u1 u2 u3)))
    have k0 : k = 0 := by omega
    subst k0
    have hn : nums L.2 a 0 = vl L.2 (a + 1) 2 := by unfold nums; rw [if_neg (by omega), if_neg (by omega), if_pos e]
    rw [hn]; exact v1
  · have d1 : dgb (L.2 a) = 1 := by rw [e]; rfl
    have c1 : cnt (L.2 a) = 1 := by rw [e]; rfl
    rw [d1] at hs
    refine wp_ifn (by rw [e]; decide) (wp_ifn (by rw [e]; decide) (wp_ifn (by rw [e]; decide) (wp_ifp (by rw [e]; rfl) ?_)))
    refine wp_bd (rd_one (p := 1) (d := 0) h hL (by omega) (by omega) hs hi ⟨Nat.le_refl _, by omega⟩ hi2 Fm.rf (fun U1 s1 n1 l1 v1 i1 o1 f1 => wp_u2 (wp_some (Or.inl ⟨rfl, by rw [d1]; exact s1, by rw [d1]; omega, by rw [d1]; exact l1, fun k hk => ?_, f1⟩))) fun U k u1 u2 u3 => wp_u2 (wp_some (fail U k u1 u2 u3)))
    have k0 : k = 0 := by omega
    subst k0
    have hn : nums L.2 a 0 = vl L.2 (a + 1) 1 := by unfold nums; rw [if_neg (by omega), if_neg (by omega), if_neg (by omega)]
    rw [hn]; exact v1
  · exact wp_ifn (by rw [e]; decide) (wp_ifn (by rw [e]; decide) (wp_ifn (by rw [e]; decide) (wp_ifn (by rw [e]; decide) (wp_ifn (by rw [e]; decide) (wp_ifn (by rw [e]; decide) (many 8 (by rw [e]; rfl) (by omega) (fun k => by unfold nums; rw [if_neg (by omega), if_neg (by omega), if_neg (by omega)]) (by rw [e]; rfl)))))))
  · have d3 : dgb (L.2 a) = 3 := by rw [e]; rfl
    rw [d3] at hs
    refine wp_ifn (by rw [e]; decide) (wp_ifn (by rw [e]; decide) (wp_ifn (by rw [e]; decide) (wp_ifn (by rw [e]; decide) (wp_ifp (by rw [e]; rfl) ?_))))
    exact twoD d3 hs (by rw [e]; rfl) (fun k => by unfold nums; rw [if_neg (by omega), if_pos (by omega)])
  · exact wp_ifn (by rw [e]; decide) (wp_ifn (by rw [e]; decide) (wp_ifn (by rw [e]; decide) (wp_ifn (by rw [e]; decide) (wp_ifn (by rw [e]; decide) (wp_ifp (by rw [e]; rfl) (many 9 (by rw [e]; rfl) (by omega) (fun k => by unfold nums; rw [if_neg (by omega), if_neg (by omega), if_neg (by omega)]) (by rw [e]; rfl)))))))
