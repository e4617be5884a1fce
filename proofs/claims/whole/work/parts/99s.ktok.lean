/-! the contract of Tokens(): its loop over the keywords' text, step by step -/
set_option maxRecDepth 100000 in
theorem kc_5_20 {l : Launch} (hStr : kStr l) : KM l m_X5_init 6 2 923 5 20 (kfin 5 20) := KM_by (G := kG0) (fin := kfin) (mc := kmc) (ms := kms) (kini := kini) (kd := kdp) [21, 22] 3323 k_X5_init kt_X5_init (by decide) kno_G kno_k (by decide) (fun _ => ⟨hStr, by decide⟩) (fun h => absurd h (by decide +kernel)) (by decide +kernel)
