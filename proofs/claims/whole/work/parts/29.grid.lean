/-! new T[n][m] -/
section GR
variable {l : Launch} {mt : mT} {d : Nat} {b : Nat × Nat} {pc idx : Nat} {ls : List (Option mV)} {st : List mV} {S : mS} {r : List (List Nat)} {Q : Option mV → mM → Prop}
theorem WP_mnaI {n k : Int} {N K : Nat} (hd : mcd mt pc = some (.multianewarray idx 2, 4)) (hw : Cond.classLink mt.1.cls idx "[[I" ∈ mg) (hw2 : Cond.arrayClass .int ∈ mg) (hn : n = (N : Int)) (hk : k = (K : Int)) (hN : N ≤ 1000) (hK : K ≤ 1000) (hr : mrr S r) (hls : mltL S.length ls) (hlt : ∀ w ∈ st, mlt S.length w) (kk : WP l mt d b (pc + 4) ls (.inr (.inr (.inl S.length)) :: st) (S ++ (14, N) :: List.replicate N (10, K), r ++ ((List.range N).map (fun i => S.length + 1 + i + 1)) :: List.replicate N [], z0) Q) : WP l mt d (b.1 + (1 + N), b.2 + (N + N * K)) pc ls (.inl k :: .inl n :: st) (S, r, z0) Q := by
  sorry
theorem WP_mnaJ {n k : Int} {N K : Nat} (hd : mcd mt pc = some (.multianewarray idx 2, 4)) (hw : Cond.classLink mt.1.cls idx "[[J" ∈ mg) (hw2 : Cond.arrayClass .long ∈ mg) (hn : n = (N : Int)) (hk : k = (K : Int)) (hN : N ≤ 1000) (hK : K ≤ 1000) (hr : mrr S r) (hls : mltL S.length ls) (hlt : ∀ w ∈ st, mlt S.length w) (kk : WP l mt d b (pc + 4) ls (.inr (.inr (.inl S.length)) :: st) (S ++ (15, N) :: List.replicate N (11, K), r ++ ((List.range N).map (fun i => S.length + 1 + i + 1)) :: List.replicate N [], z0) Q) : WP l mt d (b.1 + (1 + N), b.2 + (N + N * K)) pc ls (.inl k :: .inl n :: st) (S, r, z0) Q := by
  sorry
end GR
