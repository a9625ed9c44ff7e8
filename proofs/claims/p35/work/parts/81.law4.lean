/-! where the law begins -/
abbrev L00 : Ly := (0, fun _ => none)
def S00 : Sg := (fun _ _ => 0, fun _ _ => 0)
def LF : Ly := lay0 L00 (gl 0)
def SF : Sg := gS 0 S00
def W00 : Wd := (fun k => k, fun j _ => if j = 2 then 99 else 0, fun j => if j = 0 then 8 else if j = 2 then 4 else 0, [])
theorem W00_ok : wgood W00 := by
  refine ⟨⟨by decide +kernel, fun j k _ _ h => h, by decide +kernel, by decide +kernel, by decide +kernel, by decide +kernel, trivial, trivial, fun i hi => absurd hi (Nat.not_lt_zero i)⟩, nofix_nil, fun i hi => absurd hi (Nat.not_lt_zero i)⟩
theorem SF_sp : SP 18 SF [] := by
  refine ⟨fun v hv c hc => ?_, ?_, by decide +kernel⟩
  · rw [gr_nil hc]
    have : ∀ v, v < 10 → ∀ c, c < 10 → SF.2 (18 + 2 + v) c = J (eb v c) := by decide +kernel
    exact this v hv c hc
  · rw [gs_nil]; decide +kernel
theorem SF_k : KI SF W00 none := ⟨W00_ok, ⟨by decide +kernel, by decide +kernel, by decide +kernel, fun i hi => absurd hi (Nat.not_lt_zero i), SF_sp⟩, fun k h => nomatch h⟩
theorem LF_gu : isGu LF := by
  unfold isGu isW isSp isQ isNa isNum
  repeat' apply And.intro
  all_goals decide +kernel
