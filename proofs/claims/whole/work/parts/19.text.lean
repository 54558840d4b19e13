/-! charAt and indexOf of the two texts -/
section STX
variable {p : Program} {l : Launch} {e : Env} {R : Room} {s : State} {m : MethodId} {args : Array Value} {below : List Frame} {meth : Method} {c : Code} {D : va_G} {cid : Nat → ClassId} {ad : Nat → Nat} {A : Nat → Prop} {Q : State → Prop}
variable {mi pc : Nat} {f : Nat → List Value → List Value → am_M → am_O} {L st : List Value} {M M' M0 M1 : am_M} {r r0 : Option Value} {H : Heap} {locs : List Loc} {ls : Array Slot} {k d : Nat} {q : List Value}
theorem am_s_charAt (C : am_Cx p R s m args meth c mi) (hRO : am_RO ad A s s.heap) (kf : am_kf p l e R s m args below meth c D cid ad A Q mi f M0 M1 r) (hI : am_I D cid ad A s mi M0 M H locs ls L) {idx : Nat} {i : Int32} (hd : decode (am_c mi) pc = .ok (.invokevirtual idx, 3)) (ho : am_own mi = 9) (hi : idx = 31) (h0 : 0 ≤ i.toInt) (h1 : i.toInt < 192) (hc : am_cats q ≤ 8) (h : f (pc + 3) L (.int ((am_txt 0).getD i.toNatClampNeg 0) :: q) M = some (r, M1)) :
    W p l e R s m args below meth c H locs (M.2.2.2.2.1 - M0.2.2.2.2.1) (M.2.2.2.2.2 - M0.2.2.2.2.2) Q (F0 m pc ls (.int i :: .ref (ad 1000000) :: q.map (am_tv ad))) := sorry
theorem am_s_indexOf (C : am_Cx p R s m args meth c mi) (hRO : am_RO ad A s s.heap) (kf : am_kf p l e R s m args below meth c D cid ad A Q mi f M0 M1 r) (hI : am_I D cid ad A s mi M0 M H locs ls L) {idx : Nat} {ch : Int32} (hd : decode (am_c mi) pc = .ok (.invokevirtual idx, 3)) (ho : am_own mi = 9) (hi : idx = 109) (hc : am_cats q ≤ 8) (h : f (pc + 3) L (.int (am_ixF ch (am_txt 1) 0) :: q) M = some (r, M1)) :
    W p l e R s m args below meth c H locs (M.2.2.2.2.1 - M0.2.2.2.2.1) (M.2.2.2.2.2 - M0.2.2.2.2.2) Q (F0 m pc ls (.int ch :: .ref (ad 1000001) :: q.map (am_tv ad))) := sorry
end STX
