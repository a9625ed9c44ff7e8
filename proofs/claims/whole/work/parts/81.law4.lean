/-! where the law begins -/
abbrev L00 : Ly := (0, fun _ => none)
def S00 : Sg := (fun _ _ => 0, fun _ _ => 0)
def LF : Ly := lay0 (lay0 L00 (gl 0)) (ml 140)
def SF : Sg := mS 140 (gS 0 S00)
def W00 : Wd := (fun k => k, fun j _ => if j = 2 then 99 else 0, fun j => if j = 0 then 8 else if j = 2 then 4 else 0, [])
def G00 : Gst := (W00, none, (0, fun _ => 0), (0, fun _ => 0), fun _ => 0)
theorem gr_nil {b : Nat → Int} {c : Nat} (hc : c < 10) : gr [] b c = b c := by
  show ip 10 (gA (eb c) E0) (gA b E0) = b c
  rw [ip_adj, ip_ext 10 E0 E0 (fun m => go m (eb c) (gA b E0)) (fun m => b c * E0 m) (fun _ _ => rfl) (fun m hm => ?_), ip_smul, ip_E0]
  · omega
  · have h1 := g_car m (eb c) b E0
    rw [hm, dt_eb 10 c b hc] at h1
    have h2 : gw m b (fun m => go m (eb c) E0) = gw m b (fun m => 0 * E0 m + 0 * E0 m) := gw_ext _ _ _ _ fun m hm => by
      rw [go_E0]
      omega
    rw [gw_lin] at h2
    show go m (eb c) (fun q => gw q b E0) = _
    omega
theorem W00_ok : wgood W00 := by
  refine ⟨⟨by decide +kernel, fun j k _ _ h => h, by decide +kernel, by decide +kernel, by decide +kernel, by decide +kernel, trivial, trivial, fun i hi => absurd hi (Nat.not_lt_zero i)⟩, nofix_nil, fun i hi => absurd hi (Nat.not_lt_zero i)⟩
theorem G00_ok : GO G00 := ⟨W00_ok, fun k h => (by cases h), ⟨by decide, fun k hk => absurd hk (Nat.not_lt_zero k)⟩, ⟨by decide, fun k hk => absurd hk (Nat.not_lt_zero k)⟩⟩
theorem SF_sp : SP 18 SF [] := by
  refine ⟨fun v hv c hc => ?_, ?_, by decide +kernel⟩
  · rw [gr_nil hc]
    have : ∀ v, v < 10 → ∀ c, c < 10 → SF.2 (18 + 2 + v) c = J (eb v c) := by decide +kernel
    exact this v hv c hc
  · rw [gs_nil]; decide +kernel
theorem SF_c : CI SF G00 := by
  refine ⟨⟨by decide +kernel, by decide +kernel, by decide +kernel, fun i hi => absurd hi (Nat.not_lt_zero i), SF_sp⟩, ⟨fun _ => by decide +kernel, fun k h => (by cases h)⟩, ⟨by decide +kernel, fun k hk => absurd hk (Nat.not_lt_zero k)⟩, ⟨by decide +kernel, fun k hk => absurd hk (Nat.not_lt_zero k)⟩, by decide +kernel⟩
theorem SF_m : MI SF G00 := by
  refine ⟨⟨by decide +kernel, by decide +kernel, by decide +kernel, fun i hi => absurd hi (Nat.not_lt_zero i)⟩, ⟨fun _ => by decide +kernel, fun k h => (by cases h)⟩, ⟨by decide +kernel, fun k hk => absurd hk (Nat.not_lt_zero k)⟩, ⟨by decide +kernel, fun k hk => absurd hk (Nat.not_lt_zero k)⟩, by decide +kernel⟩
theorem SF_inv : Inv SF := ⟨G00, G00_ok, SF_c, SF_m⟩
theorem LF_gu : isGu LF := by
  unfold isGu isW isSp isQ isNa isNum
  repeat' apply And.intro
  all_goals decide +kernel
theorem LF_mo : isMo LF := by
  unfold isMo
  repeat' apply And.intro
  all_goals decide +kernel
theorem gS_o {o o' : Nat} {S : Sg} (h : o + 130 ≤ o') : (gS o S).1 o' = S.1 o' ∧ (gS o S).2 o' = S.2 o' := by
  obtain ⟨a1, a2⟩ := wS_o (o := o + 87) (o' := o') (S := wS (o + 44) (wS (o + 1) S)) (by omega)
  obtain ⟨b1, b2⟩ := wS_o (o := o + 44) (o' := o') (S := wS (o + 1) S) (by omega)
  obtain ⟨c1, c2⟩ := wS_o (o := o + 1) (o' := o') (S := S) (by omega)
  exact ⟨(a1.trans b1).trans c1, (a2.trans b2).trans c2⟩
theorem gl_len : (gl 0).length = 140 := by decide +kernel
