/-! the law's loop, printed by wip/p34/genall.py -/
theorem zt_l913 : zchk zRUL 3 xBY zIN zCF [] zgl_l913 20000 [(12, 3, 92), (12, 3, 93), (5, 0, 0), (5, 1, 0)] zc_l913 = true := by decide +kernel
theorem zt_l914 : zchk zRUL 3 xBY zIN zCF [] zgl_l913 20000 [(12, 2, 91), (21, 2, 90)] zc_l914 = true := by decide +kernel
theorem zt_l915 : zchk zRUL 3 xBY zIN zCF [] zgl_l913 20000 [(12, 2, 91), (21, 2, 90)] zc_l915 = true := by decide +kernel
theorem zt_l916 : zchk zRUL 3 xBY zIN zCF [] zgl_l913 20000 [(12, 2, 91), (21, 2, 90)] zc_l916 = true := by decide +kernel
theorem zt_l917 : zchk zRUL 3 xBY zIN zCF [] zgl_l913 20000 [(12, 2, 91), (21, 2, 90)] zc_l917 = true := by decide +kernel
theorem zt_l918 : zchk zRUL 3 xBY zIN zCF [] zgl_l913 20000 [(12, 2, 91), (21, 2, 90)] zc_l918 = true := by decide +kernel
theorem zt_l919 : zchk zRUL 3 xBY zIN zCF [] zgl_l913 20000 [(12, 2, 91), (21, 2, 90)] zc_l919 = true := by decide +kernel
theorem zt_l920 : zchk zRUL 3 xBY zIN zCF [] zgl_l913 20000 [(12, 2, 91), (21, 2, 90)] zc_l920 = true := by decide +kernel
theorem zt_l921 : zchk zRUL 3 xBY zIN zCF [] zgl_l913 20000 [(12, 2, 91), (21, 2, 90)] zc_l921 = true := by decide +kernel
theorem zt_l922 : zchk zRUL 3 xBY zIN zCF [] zgl_l913 20000 [(12, 2, 91), (21, 2, 90)] zc_l922 = true := by decide +kernel
theorem zt_l923 : zchk zRUL 3 xBY zIN zCF [] zgl_l913 20000 [(12, 2, 91), (21, 2, 90)] zc_l923 = true := by decide +kernel
theorem zt_l924 : zchk zRUL 3 xBY zIN zCF [] zgl_l913 20000 [(12, 2, 91), (21, 2, 90)] zc_l924 = true := by decide +kernel
theorem zt_l925 : zchk zRUL 3 xBY zIN zCF [] zgl_l913 20000 [(12, 2, 91), (21, 2, 90)] zc_l925 = true := by decide +kernel
theorem zt_l926 : zchk zRUL 3 xBY zIN zCF [] zgl_l913 20000 [(12, 2, 91), (21, 2, 90)] zc_l926 = true := by decide +kernel
theorem zt_l927 : zchk zRUL 3 xBY zIN zCF [] zgl_l913 20000 [(12, 2, 91), (21, 2, 90)] zc_l927 = true := by decide +kernel
theorem zt_l928 : zchk zRUL 3 xBY zIN zCF [] zgl_l913 20000 [(12, 2, 91), (21, 2, 90)] zc_l928 = true := by decide +kernel
theorem zga_l913_0 : ∀ p ∈ zgh_l913_0, zchk zRUL 3 xBY zIN zCF [] zgl_l913 20000 p.2 p.1 = true := List.forall_mem_cons.mpr ⟨zt_l913, List.forall_mem_cons.mpr ⟨zt_l914, List.forall_mem_cons.mpr ⟨zt_l915, List.forall_mem_cons.mpr ⟨zt_l916, List.forall_mem_cons.mpr ⟨zt_l917, List.forall_mem_cons.mpr ⟨zt_l918, List.forall_mem_cons.mpr ⟨zt_l919, List.forall_mem_cons.mpr ⟨zt_l920, List.forall_mem_cons.mpr ⟨zt_l921, List.forall_mem_cons.mpr ⟨zt_l922, List.forall_mem_cons.mpr ⟨zt_l923, List.forall_mem_cons.mpr ⟨zt_l924, List.forall_mem_cons.mpr ⟨zt_l925, List.forall_mem_cons.mpr ⟨zt_l926, List.forall_mem_cons.mpr ⟨zt_l927, List.forall_mem_cons.mpr ⟨zt_l928, fun _ h => absurd h List.not_mem_nil⟩⟩⟩⟩⟩⟩⟩⟩⟩⟩⟩⟩⟩⟩⟩⟩
theorem zt_l929 : zchk zRUL 3 xBY zIN zCF [] zgl_l913 20000 [(12, 2, 91), (21, 2, 90)] zc_l929 = true := by decide +kernel
theorem zt_l930 : zchk zRUL 3 xBY zIN zCF [] zgl_l913 20000 [(12, 2, 91), (21, 2, 90)] zc_l930 = true := by decide +kernel
theorem zt_l931 : zchk zRUL 3 xBY zIN zCF [] zgl_l913 20000 [(12, 2, 91), (21, 2, 90)] zc_l931 = true := by decide +kernel
theorem zt_l932 : zchk zRUL 3 xBY zIN zCF [] zgl_l913 20000 [(12, 2, 91), (21, 2, 90)] zc_l932 = true := by decide +kernel
theorem zt_l933 : zchk zRUL 3 xBY zIN zCF [] zgl_l913 20000 [(12, 2, 91), (21, 2, 90)] zc_l933 = true := by decide +kernel
theorem zt_l934 : zchk zRUL 3 xBY zIN zCF [] zgl_l913 20000 [(12, 2, 91), (21, 2, 90)] zc_l934 = true := by decide +kernel
theorem zt_l935 : zchk zRUL 3 xBY zIN zCF [] zgl_l913 20000 [(12, 2, 91), (21, 2, 90)] zc_l935 = true := by decide +kernel
theorem zt_l936 : zchk zRUL 3 xBY zIN zCF [] zgl_l913 20000 [(12, 2, 91), (21, 2, 90)] zc_l936 = true := by decide +kernel
theorem zt_l937 : zchk zRUL 3 xBY zIN zCF [] zgl_l913 20000 [(12, 2, 91), (21, 2, 90)] zc_l937 = true := by decide +kernel
theorem zt_l938 : zchk zRUL 3 xBY zIN zCF [] zgl_l913 20000 [(12, 2, 91), (21, 2, 90)] zc_l938 = true := by decide +kernel
theorem zt_l939 : zchk zRUL 3 xBY zIN zCF [] zgl_l913 20000 [(12, 2, 91), (21, 2, 90)] zc_l939 = true := by decide +kernel
theorem zt_l940 : zchk zRUL 3 xBY zIN zCF [] zgl_l913 20000 [(12, 2, 91), (21, 2, 90)] zc_l940 = true := by decide +kernel
theorem zt_l941 : zchk zRUL 3 xBY zIN zCF [] zgl_l913 20000 [(12, 2, 91), (21, 2, 90)] zc_l941 = true := by decide +kernel
theorem zt_l942 : zchk zRUL 3 xBY zIN zCF [] zgl_l913 20000 [(12, 2, 91), (21, 2, 90)] zc_l942 = true := by decide +kernel
theorem zt_l943 : zchk zRUL 3 xBY zIN zCF [] zgl_l913 20000 [(12, 2, 91), (21, 2, 90)] zc_l943 = true := by decide +kernel
theorem zt_l944 : zchk zRUL 3 xBY zIN zCF [] zgl_l913 20000 [(12, 2, 91), (21, 2, 90)] zc_l944 = true := by decide +kernel
theorem zga_l913_1 : ∀ p ∈ zgh_l913_1, zchk zRUL 3 xBY zIN zCF [] zgl_l913 20000 p.2 p.1 = true := List.forall_mem_cons.mpr ⟨zt_l929, List.forall_mem_cons.mpr ⟨zt_l930, List.forall_mem_cons.mpr ⟨zt_l931, List.forall_mem_cons.mpr ⟨zt_l932, List.forall_mem_cons.mpr ⟨zt_l933, List.forall_mem_cons.mpr ⟨zt_l934, List.forall_mem_cons.mpr ⟨zt_l935, List.forall_mem_cons.mpr ⟨zt_l936, List.forall_mem_cons.mpr ⟨zt_l937, List.forall_mem_cons.mpr ⟨zt_l938, List.forall_mem_cons.mpr ⟨zt_l939, List.forall_mem_cons.mpr ⟨zt_l940, List.forall_mem_cons.mpr ⟨zt_l941, List.forall_mem_cons.mpr ⟨zt_l942, List.forall_mem_cons.mpr ⟨zt_l943, List.forall_mem_cons.mpr ⟨zt_l944, fun _ h => absurd h List.not_mem_nil⟩⟩⟩⟩⟩⟩⟩⟩⟩⟩⟩⟩⟩⟩⟩⟩
theorem zt_l945 : zchk zRUL 3 xBY zIN zCF [] zgl_l913 20000 [(12, 2, 91), (21, 2, 90)] zc_l945 = true := by decide +kernel
theorem zt_l946 : zchk zRUL 3 xBY zIN zCF [] zgl_l913 20000 [(12, 2, 91), (21, 2, 90)] zc_l946 = true := by decide +kernel
theorem zt_l947 : zchk zRUL 3 xBY zIN zCF [] zgl_l913 20000 [(12, 2, 91), (21, 2, 90)] zc_l947 = true := by decide +kernel
theorem zt_l948 : zchk zRUL 3 xBY zIN zCF [] zgl_l913 20000 [(12, 2, 91), (21, 2, 90)] zc_l948 = true := by decide +kernel
theorem zt_l949 : zchk zRUL 3 xBY zIN zCF [] zgl_l913 20000 [(12, 2, 91), (21, 2, 90)] zc_l949 = true := by decide +kernel
theorem zt_l950 : zchk zRUL 3 xBY zIN zCF [] zgl_l913 20000 [(12, 2, 91), (21, 2, 90)] zc_l950 = true := by decide +kernel
theorem zt_l951 : zchk zRUL 3 xBY zIN zCF [] zgl_l913 20000 [(12, 2, 91), (21, 2, 90)] zc_l951 = true := by decide +kernel
theorem zt_l952 : zchk zRUL 3 xBY zIN zCF [] zgl_l913 20000 [(12, 2, 91), (21, 2, 90)] zc_l952 = true := by decide +kernel
theorem zt_l953 : zchk zRUL 3 xBY zIN zCF [] zgl_l913 20000 [(12, 2, 91), (21, 2, 90)] zc_l953 = true := by decide +kernel
theorem zt_l954 : zchk zRUL 3 xBY zIN zCF [] zgl_l913 20000 [(12, 2, 91), (21, 2, 90)] zc_l954 = true := by decide +kernel
theorem zt_l955 : zchk zRUL 3 xBY zIN zCF [] zgl_l913 20000 [(12, 2, 91), (21, 2, 90)] zc_l955 = true := by decide +kernel
theorem zt_l956 : zchk zRUL 3 xBY zIN zCF [] zgl_l913 20000 [(12, 2, 91), (21, 2, 90)] zc_l956 = true := by decide +kernel
theorem zt_l957 : zchk zRUL 3 xBY zIN zCF [] zgl_l913 20000 [(12, 2, 91), (21, 2, 90)] zc_l957 = true := by decide +kernel
theorem zt_l958 : zchk zRUL 3 xBY zIN zCF [] zgl_l913 20000 [(12, 2, 91), (21, 2, 90)] zc_l958 = true := by decide +kernel
theorem zt_l959 : zchk zRUL 3 xBY zIN zCF [] zgl_l913 20000 [(12, 2, 91), (21, 2, 90)] zc_l959 = true := by decide +kernel
theorem zt_l960 : zchk zRUL 3 xBY zIN zCF [] zgl_l913 20000 [(12, 2, 91), (21, 2, 90)] zc_l960 = true := by decide +kernel
theorem zga_l913_2 : ∀ p ∈ zgh_l913_2, zchk zRUL 3 xBY zIN zCF [] zgl_l913 20000 p.2 p.1 = true := List.forall_mem_cons.mpr ⟨zt_l945, List.forall_mem_cons.mpr ⟨zt_l946, List.forall_mem_cons.mpr ⟨zt_l947, List.forall_mem_cons.mpr ⟨zt_l948, List.forall_mem_cons.mpr ⟨zt_l949, List.forall_mem_cons.mpr ⟨zt_l950, List.forall_mem_cons.mpr ⟨zt_l951, List.forall_mem_cons.mpr ⟨zt_l952, List.forall_mem_cons.mpr ⟨zt_l953, List.forall_mem_cons.mpr ⟨zt_l954, List.forall_mem_cons.mpr ⟨zt_l955, List.forall_mem_cons.mpr ⟨zt_l956, List.forall_mem_cons.mpr ⟨zt_l957, List.forall_mem_cons.mpr ⟨zt_l958, List.forall_mem_cons.mpr ⟨zt_l959, List.forall_mem_cons.mpr ⟨zt_l960, fun _ h => absurd h List.not_mem_nil⟩⟩⟩⟩⟩⟩⟩⟩⟩⟩⟩⟩⟩⟩⟩⟩
theorem zt_l961 : zchk zRUL 3 xBY zIN zCF [] zgl_l913 20000 [(12, 2, 91), (21, 2, 90)] zc_l961 = true := by decide +kernel
theorem zt_l962 : zchk zRUL 3 xBY zIN zCF [] zgl_l913 20000 [(12, 2, 91), (21, 2, 90)] zc_l962 = true := by decide +kernel
theorem zt_l963 : zchk zRUL 3 xBY zIN zCF [] zgl_l913 20000 [(12, 2, 91), (21, 2, 90)] zc_l963 = true := by decide +kernel
theorem zt_l964 : zchk zRUL 3 xBY zIN zCF [] zgl_l913 20000 [(12, 2, 91), (21, 2, 90)] zc_l964 = true := by decide +kernel
theorem zt_l965 : zchk zRUL 3 xBY zIN zCF [] zgl_l913 20000 [(12, 2, 91), (21, 2, 90)] zc_l965 = true := by decide +kernel
theorem zt_l966 : zchk zRUL 3 xBY zIN zCF [] zgl_l913 20000 [(12, 2, 91), (21, 2, 90)] zc_l966 = true := by decide +kernel
theorem zt_l967 : zchk zRUL 3 xBY zIN zCF [] zgl_l913 20000 [(12, 2, 91), (21, 2, 90)] zc_l967 = true := by decide +kernel
theorem zt_l968 : zchk zRUL 3 xBY zIN zCF [] zgl_l913 20000 [(12, 2, 91), (21, 2, 90)] zc_l968 = true := by decide +kernel
theorem zt_l969 : zchk zRUL 3 xBY zIN zCF [] zgl_l913 20000 [(12, 2, 91), (21, 2, 90)] zc_l969 = true := by decide +kernel
theorem zt_l970 : zchk zRUL 3 xBY zIN zCF [] zgl_l913 20000 [(12, 2, 91), (21, 2, 90)] zc_l970 = true := by decide +kernel
theorem zt_l971 : zchk zRUL 3 xBY zIN zCF [] zgl_l913 20000 [(12, 2, 91), (21, 2, 90)] zc_l971 = true := by decide +kernel
theorem zt_l972 : zchk zRUL 3 xBY zIN zCF [] zgl_l913 20000 [(12, 2, 91), (21, 2, 90)] zc_l972 = true := by decide +kernel
theorem zt_l973 : zchk zRUL 3 xBY zIN zCF [] zgl_l913 20000 [(12, 2, 91), (21, 2, 90)] zc_l973 = true := by decide +kernel
theorem zt_l974 : zchk zRUL 3 xBY zIN zCF [] zgl_l913 20000 [(12, 2, 91), (21, 2, 90)] zc_l974 = true := by decide +kernel
theorem zt_l975 : zchk zRUL 3 xBY zIN zCF [] zgl_l913 20000 [(12, 2, 91), (21, 2, 90)] zc_l975 = true := by decide +kernel
theorem zt_l976 : zchk zRUL 3 xBY zIN zCF [] zgl_l913 20000 [(12, 2, 91), (21, 2, 90)] zc_l976 = true := by decide +kernel
theorem zga_l913_3 : ∀ p ∈ zgh_l913_3, zchk zRUL 3 xBY zIN zCF [] zgl_l913 20000 p.2 p.1 = true := List.forall_mem_cons.mpr ⟨zt_l961, List.forall_mem_cons.mpr ⟨zt_l962, List.forall_mem_cons.mpr ⟨zt_l963, List.forall_mem_cons.mpr ⟨zt_l964, List.forall_mem_cons.mpr ⟨zt_l965, List.forall_mem_cons.mpr ⟨zt_l966, List.forall_mem_cons.mpr ⟨zt_l967, List.forall_mem_cons.mpr ⟨zt_l968, List.forall_mem_cons.mpr ⟨zt_l969, List.forall_mem_cons.mpr ⟨zt_l970, List.forall_mem_cons.mpr ⟨zt_l971, List.forall_mem_cons.mpr ⟨zt_l972, List.forall_mem_cons.mpr ⟨zt_l973, List.forall_mem_cons.mpr ⟨zt_l974, List.forall_mem_cons.mpr ⟨zt_l975, List.forall_mem_cons.mpr ⟨zt_l976, fun _ h => absurd h List.not_mem_nil⟩⟩⟩⟩⟩⟩⟩⟩⟩⟩⟩⟩⟩⟩⟩⟩
theorem zt_l977 : zchk zRUL 3 xBY zIN zCF [] zgl_l913 20000 [(12, 2, 91), (21, 2, 90)] zc_l977 = true := by decide +kernel
theorem zt_l978 : zchk zRUL 3 xBY zIN zCF [] zgl_l913 20000 [(12, 2, 91), (21, 2, 90)] zc_l978 = true := by decide +kernel
theorem zt_l979 : zchk zRUL 3 xBY zIN zCF [] zgl_l913 20000 [(12, 2, 91), (21, 2, 90)] zc_l979 = true := by decide +kernel
theorem zt_l980 : zchk zRUL 3 xBY zIN zCF [] zgl_l913 20000 [(12, 2, 91), (21, 2, 90)] zc_l980 = true := by decide +kernel
theorem zt_l981 : zchk zRUL 3 xBY zIN zCF [] zgl_l913 20000 [(12, 2, 91), (21, 2, 90)] zc_l981 = true := by decide +kernel
theorem zt_l982 : zchk zRUL 3 xBY zIN zCF [] zgl_l913 20000 [(12, 2, 91), (21, 2, 90)] zc_l982 = true := by decide +kernel
theorem zt_l983 : zchk zRUL 3 xBY zIN zCF [] zgl_l913 20000 [(12, 2, 91), (21, 2, 90)] zc_l983 = true := by decide +kernel
theorem zt_l984 : zchk zRUL 3 xBY zIN zCF [] zgl_l913 20000 [(12, 2, 91), (21, 2, 90)] zc_l984 = true := by decide +kernel
theorem zt_l985 : zchk zRUL 3 xBY zIN zCF [] zgl_l913 20000 [(12, 2, 91), (21, 2, 90)] zc_l985 = true := by decide +kernel
theorem zt_l986 : zchk zRUL 3 xBY zIN zCF [] zgl_l913 20000 [(12, 2, 91), (21, 2, 90)] zc_l986 = true := by decide +kernel
theorem zt_l987 : zchk zRUL 3 xBY zIN zCF [] zgl_l913 20000 [(12, 2, 91), (21, 2, 90)] zc_l987 = true := by decide +kernel
theorem zt_l988 : zchk zRUL 3 xBY zIN zCF [] zgl_l913 20000 [(12, 2, 91), (21, 2, 90)] zc_l988 = true := by decide +kernel
theorem zt_l989 : zchk zRUL 3 xBY zIN zCF [] zgl_l913 20000 [(12, 2, 91), (21, 2, 90)] zc_l989 = true := by decide +kernel
theorem zt_l990 : zchk zRUL 3 xBY zIN zCF [] zgl_l913 20000 [(12, 2, 91), (21, 2, 90)] zc_l990 = true := by decide +kernel
theorem zt_l991 : zchk zRUL 3 xBY zIN zCF [] zgl_l913 20000 [(12, 2, 91), (21, 2, 90)] zc_l991 = true := by decide +kernel
theorem zt_l992 : zchk zRUL 3 xBY zIN zCF [] zgl_l913 20000 [(12, 2, 91), (21, 2, 90)] zc_l992 = true := by decide +kernel
theorem zga_l913_4 : ∀ p ∈ zgh_l913_4, zchk zRUL 3 xBY zIN zCF [] zgl_l913 20000 p.2 p.1 = true := List.forall_mem_cons.mpr ⟨zt_l977, List.forall_mem_cons.mpr ⟨zt_l978, List.forall_mem_cons.mpr ⟨zt_l979, List.forall_mem_cons.mpr ⟨zt_l980, List.forall_mem_cons.mpr ⟨zt_l981, List.forall_mem_cons.mpr ⟨zt_l982, List.forall_mem_cons.mpr ⟨zt_l983, List.forall_mem_cons.mpr ⟨zt_l984, List.forall_mem_cons.mpr ⟨zt_l985, List.forall_mem_cons.mpr ⟨zt_l986, List.forall_mem_cons.mpr ⟨zt_l987, List.forall_mem_cons.mpr ⟨zt_l988, List.forall_mem_cons.mpr ⟨zt_l989, List.forall_mem_cons.mpr ⟨zt_l990, List.forall_mem_cons.mpr ⟨zt_l991, List.forall_mem_cons.mpr ⟨zt_l992, fun _ h => absurd h List.not_mem_nil⟩⟩⟩⟩⟩⟩⟩⟩⟩⟩⟩⟩⟩⟩⟩⟩
theorem zt_l993 : zchk zRUL 3 xBY zIN zCF [] zgl_l913 20000 [(12, 2, 91), (21, 2, 90)] zc_l993 = true := by decide +kernel
theorem zt_l994 : zchk zRUL 3 xBY zIN zCF [] zgl_l913 20000 [(12, 2, 91), (21, 2, 90)] zc_l994 = true := by decide +kernel
theorem zt_l995 : zchk zRUL 3 xBY zIN zCF [] zgl_l913 20000 [(12, 2, 91), (21, 2, 90)] zc_l995 = true := by decide +kernel
theorem zt_l996 : zchk zRUL 3 xBY zIN zCF [] zgl_l913 20000 [(12, 2, 91), (21, 2, 90)] zc_l996 = true := by decide +kernel
theorem zt_l997 : zchk zRUL 3 xBY zIN zCF [] zgl_l913 20000 [(12, 2, 91), (21, 2, 90)] zc_l997 = true := by decide +kernel
theorem zt_l998 : zchk zRUL 3 xBY zIN zCF [] zgl_l913 20000 [(12, 2, 91), (21, 2, 90)] zc_l998 = true := by decide +kernel
theorem zt_l999 : zchk zRUL 3 xBY zIN zCF [] zgl_l913 20000 [(12, 2, 91), (21, 2, 90)] zc_l999 = true := by decide +kernel
theorem zt_l1000 : zchk zRUL 3 xBY zIN zCF [] zgl_l913 20000 [(12, 2, 91), (21, 2, 90)] zc_l1000 = true := by decide +kernel
theorem zt_l1001 : zchk zRUL 3 xBY zIN zCF [] zgl_l913 20000 [(12, 2, 91), (21, 2, 90)] zc_l1001 = true := by decide +kernel
theorem zt_l1002 : zchk zRUL 3 xBY zIN zCF [] zgl_l913 20000 [(12, 2, 91), (21, 2, 90)] zc_l1002 = true := by decide +kernel
theorem zt_l1003 : zchk zRUL 3 xBY zIN zCF [] zgl_l913 20000 [(12, 2, 91), (21, 2, 90)] zc_l1003 = true := by decide +kernel
theorem zt_l1004 : zchk zRUL 3 xBY zIN zCF [] zgl_l913 20000 [(12, 2, 91), (21, 2, 90)] zc_l1004 = true := by decide +kernel
theorem zt_l1005 : zchk zRUL 3 xBY zIN zCF [] zgl_l913 20000 [(12, 2, 91), (21, 2, 90)] zc_l1005 = true := by decide +kernel
theorem zt_l1006 : zchk zRUL 3 xBY zIN zCF [] zgl_l913 20000 [(12, 2, 91), (21, 2, 90)] zc_l1006 = true := by decide +kernel
theorem zt_l1007 : zchk zRUL 3 xBY zIN zCF [] zgl_l913 20000 [(12, 2, 91), (21, 2, 90)] zc_l1007 = true := by decide +kernel
theorem zt_l1008 : zchk zRUL 3 xBY zIN zCF [] zgl_l913 20000 [(12, 2, 91), (21, 2, 90)] zc_l1008 = true := by decide +kernel
theorem zga_l913_5 : ∀ p ∈ zgh_l913_5, zchk zRUL 3 xBY zIN zCF [] zgl_l913 20000 p.2 p.1 = true := List.forall_mem_cons.mpr ⟨zt_l993, List.forall_mem_cons.mpr ⟨zt_l994, List.forall_mem_cons.mpr ⟨zt_l995, List.forall_mem_cons.mpr ⟨zt_l996, List.forall_mem_cons.mpr ⟨zt_l997, List.forall_mem_cons.mpr ⟨zt_l998, List.forall_mem_cons.mpr ⟨zt_l999, List.forall_mem_cons.mpr ⟨zt_l1000, List.forall_mem_cons.mpr ⟨zt_l1001, List.forall_mem_cons.mpr ⟨zt_l1002, List.forall_mem_cons.mpr ⟨zt_l1003, List.forall_mem_cons.mpr ⟨zt_l1004, List.forall_mem_cons.mpr ⟨zt_l1005, List.forall_mem_cons.mpr ⟨zt_l1006, List.forall_mem_cons.mpr ⟨zt_l1007, List.forall_mem_cons.mpr ⟨zt_l1008, fun _ h => absurd h List.not_mem_nil⟩⟩⟩⟩⟩⟩⟩⟩⟩⟩⟩⟩⟩⟩⟩⟩
theorem zt_l1009 : zchk zRUL 3 xBY zIN zCF [] zgl_l913 20000 [(12, 2, 91), (21, 2, 90)] zc_l1009 = true := by decide +kernel
theorem zt_l1010 : zchk zRUL 3 xBY zIN zCF [] zgl_l913 20000 [(12, 2, 91), (21, 2, 90)] zc_l1010 = true := by decide +kernel
theorem zt_l1011 : zchk zRUL 3 xBY zIN zCF [] zgl_l913 20000 [(12, 2, 91), (21, 2, 90)] zc_l1011 = true := by decide +kernel
theorem zt_l1012 : zchk zRUL 3 xBY zIN zCF [] zgl_l913 20000 [(12, 2, 91), (21, 2, 90)] zc_l1012 = true := by decide +kernel
theorem zt_l1013 : zchk zRUL 3 xBY zIN zCF [] zgl_l913 20000 [(12, 2, 91), (21, 2, 90)] zc_l1013 = true := by decide +kernel
theorem zga_l913_6 : ∀ p ∈ zgh_l913_6, zchk zRUL 3 xBY zIN zCF [] zgl_l913 20000 p.2 p.1 = true := List.forall_mem_cons.mpr ⟨zt_l1009, List.forall_mem_cons.mpr ⟨zt_l1010, List.forall_mem_cons.mpr ⟨zt_l1011, List.forall_mem_cons.mpr ⟨zt_l1012, List.forall_mem_cons.mpr ⟨zt_l1013, fun _ h => absurd h List.not_mem_nil⟩⟩⟩⟩⟩
theorem zk_l913 {g : yG} {J : zJp} (hy : zHy g J) : zCok g zCF J zc_l913 := zgp2 hy (CT := []) (fun _ h => absurd h List.not_mem_nil) (fuel := 20000) (L := zgh_l913_0 ++ (zgh_l913_1 ++ (zgh_l913_2 ++ (zgh_l913_3 ++ (zgh_l913_4 ++ (zgh_l913_5 ++ (zgh_l913_6))))))) zge_l913 (List.forall_mem_append.mpr ⟨zga_l913_0, List.forall_mem_append.mpr ⟨zga_l913_1, List.forall_mem_append.mpr ⟨zga_l913_2, List.forall_mem_append.mpr ⟨zga_l913_3, List.forall_mem_append.mpr ⟨zga_l913_4, List.forall_mem_append.mpr ⟨zga_l913_5, zga_l913_6⟩⟩⟩⟩⟩⟩) (zc_l913, [(12, 3, 92), (12, 3, 93), (5, 0, 0), (5, 1, 0)]) (List.mem_append_left _ List.mem_cons_self)
/-- GridLawsModel.later, row 0 -/
def zc_l1014 : zC := (287, 0, 1, [(3, 88, .ofNat 0), (1, 0, .ofNat 0)], ([(88, (0, 0, .ofNat 28), (1, 1, .ofNat 0)), (1049, (1, 0, .ofNat 0), (0, 0, .ofNat 0))], []), [(.ofNat 300, .ofNat 399, 0, .ofNat 0), (.ofNat 0, .ofNat 100000, 0, .ofNat 0)], [], [(some (0, 0, .negSucc 0), ([], []), [(.ofNat 300, .ofNat 399, 0, .ofNat 0), (.ofNat 0, .ofNat 100000, 0, .ofNat 0)])], [(false, (0, 0, .ofNat 1))])
/-- GridLawsModel.later, row 5 -/
def zc_l1015 : zC := (287, 5, 1, [(3, 88, .ofNat 0), (0, 0, .ofNat 300)], ([(88, (0, 0, .ofNat 28), (1, 0, .ofNat 0)), (1049, (0, 0, .ofNat 300), (0, 0, .ofNat 0))], []), [(.ofNat 0, .ofNat 100000, 0, .ofNat 0)], [], [(some (0, 0, .negSucc 0), ([], []), [(.ofNat 0, .ofNat 100000, 0, .ofNat 0)])], [(false, (0, 0, .ofNat 0))])
/-- GridLawsModel.later, row 5 -/
def zc_l1016 : zC := (287, 5, 1, [(3, 88, .ofNat 0), (0, 0, .ofNat 301)], ([(88, (0, 0, .ofNat 28), (1, 0, .ofNat 0)), (1049, (0, 0, .ofNat 301), (0, 0, .ofNat 0))], []), [(.ofNat 0, .ofNat 100000, 0, .ofNat 0)], [], [(some (0, 0, .negSucc 0), ([], []), [(.ofNat 0, .ofNat 100000, 0, .ofNat 0)])], [(false, (0, 0, .ofNat 0))])
/-- GridLawsModel.later, row 5 -/
def zc_l1017 : zC := (287, 5, 1, [(3, 88, .ofNat 0), (0, 0, .ofNat 302)], ([(88, (0, 0, .ofNat 28), (1, 0, .ofNat 0)), (1049, (0, 0, .ofNat 302), (0, 0, .ofNat 0))], []), [(.ofNat 0, .ofNat 100000, 0, .ofNat 0)], [], [(some (0, 0, .negSucc 0), ([], []), [(.ofNat 0, .ofNat 100000, 0, .ofNat 0)])], [(false, (0, 0, .ofNat 0))])
/-- GridLawsModel.later, row 5 -/
def zc_l1018 : zC := (287, 5, 1, [(3, 88, .ofNat 0), (0, 0, .ofNat 303)], ([(88, (0, 0, .ofNat 28), (1, 0, .ofNat 0)), (1049, (0, 0, .ofNat 303), (0, 0, .ofNat 0))], []), [(.ofNat 0, .ofNat 100000, 0, .ofNat 0)], [], [(some (0, 0, .negSucc 0), ([], []), [(.ofNat 0, .ofNat 100000, 0, .ofNat 0)])], [(false, (0, 0, .ofNat 0))])
/-- GridLawsModel.later, row 5 -/
def zc_l1019 : zC := (287, 5, 1, [(3, 88, .ofNat 0), (0, 0, .ofNat 304)], ([(88, (0, 0, .ofNat 28), (1, 0, .ofNat 0)), (1049, (0, 0, .ofNat 304), (0, 0, .ofNat 0))], []), [(.ofNat 0, .ofNat 100000, 0, .ofNat 0)], [], [(some (0, 0, .negSucc 0), ([], []), [(.ofNat 0, .ofNat 100000, 0, .ofNat 0)])], [(false, (0, 0, .ofNat 0))])
/-- GridLawsModel.later, row 5 -/
def zc_l1020 : zC := (287, 5, 1, [(3, 88, .ofNat 0), (0, 0, .ofNat 305)], ([(88, (0, 0, .ofNat 28), (1, 0, .ofNat 0)), (1049, (0, 0, .ofNat 305), (0, 0, .ofNat 0))], []), [(.ofNat 0, .ofNat 100000, 0, .ofNat 0)], [], [(some (0, 0, .negSucc 0), ([], []), [(.ofNat 0, .ofNat 100000, 0, .ofNat 0)])], [(false, (0, 0, .ofNat 0))])
/-- GridLawsModel.later, row 5 -/
def zc_l1021 : zC := (287, 5, 1, [(3, 88, .ofNat 0), (0, 0, .ofNat 306)], ([(88, (0, 0, .ofNat 28), (1, 0, .ofNat 0)), (1049, (0, 0, .ofNat 306), (0, 0, .ofNat 0))], []), [(.ofNat 0, .ofNat 100000, 0, .ofNat 0)], [], [(some (0, 0, .negSucc 0), ([], []), [(.ofNat 0, .ofNat 100000, 0, .ofNat 0)])], [(false, (0, 0, .ofNat 0))])
/-- GridLawsModel.later, row 5 -/
def zc_l1022 : zC := (287, 5, 1, [(3, 88, .ofNat 0), (0, 0, .ofNat 307)], ([(88, (0, 0, .ofNat 28), (1, 0, .ofNat 0)), (1049, (0, 0, .ofNat 307), (0, 0, .ofNat 0))], []), [(.ofNat 0, .ofNat 100000, 0, .ofNat 0)], [], [(some (0, 0, .negSucc 0), ([], []), [(.ofNat 0, .ofNat 100000, 0, .ofNat 0)])], [(false, (0, 0, .ofNat 0))])
/-- GridLawsModel.later, row 5 -/
def zc_l1023 : zC := (287, 5, 1, [(3, 88, .ofNat 0), (0, 0, .ofNat 308)], ([(88, (0, 0, .ofNat 28), (1, 0, .ofNat 0)), (1049, (0, 0, .ofNat 308), (0, 0, .ofNat 0))], []), [(.ofNat 0, .ofNat 100000, 0, .ofNat 0)], [], [(some (0, 0, .negSucc 0), ([], []), [(.ofNat 0, .ofNat 100000, 0, .ofNat 0)])], [(false, (0, 0, .ofNat 0))])
/-- GridLawsModel.later, row 5 -/
def zc_l1024 : zC := (287, 5, 1, [(3, 88, .ofNat 0), (0, 0, .ofNat 309)], ([(88, (0, 0, .ofNat 28), (1, 0, .ofNat 0)), (1049, (0, 0, .ofNat 309), (0, 0, .ofNat 0))], []), [(.ofNat 0, .ofNat 100000, 0, .ofNat 0)], [], [(some (0, 0, .negSucc 0), ([], []), [(.ofNat 0, .ofNat 100000, 0, .ofNat 0)])], [(false, (0, 0, .ofNat 0))])
/-- GridLawsModel.later, row 5 -/
def zc_l1025 : zC := (287, 5, 1, [(3, 88, .ofNat 0), (0, 0, .ofNat 310)], ([(88, (0, 0, .ofNat 28), (1, 0, .ofNat 0)), (1049, (0, 0, .ofNat 310), (0, 0, .ofNat 0))], []), [(.ofNat 0, .ofNat 100000, 0, .ofNat 0)], [], [(some (0, 0, .negSucc 0), ([], []), [(.ofNat 0, .ofNat 100000, 0, .ofNat 0)])], [(false, (0, 0, .ofNat 0))])
/-- GridLawsModel.later, row 5 -/
def zc_l1026 : zC := (287, 5, 1, [(3, 88, .ofNat 0), (0, 0, .ofNat 311)], ([(88, (0, 0, .ofNat 28), (1, 0, .ofNat 0)), (1049, (0, 0, .ofNat 311), (0, 0, .ofNat 0))], []), [(.ofNat 0, .ofNat 100000, 0, .ofNat 0)], [], [(some (0, 0, .negSucc 0), ([], []), [(.ofNat 0, .ofNat 100000, 0, .ofNat 0)])], [(false, (0, 0, .ofNat 0))])
/-- GridLawsModel.later, row 5 -/
def zc_l1027 : zC := (287, 5, 1, [(3, 88, .ofNat 0), (0, 0, .ofNat 312)], ([(88, (0, 0, .ofNat 28), (1, 0, .ofNat 0)), (1049, (0, 0, .ofNat 312), (0, 0, .ofNat 0))], []), [(.ofNat 0, .ofNat 100000, 0, .ofNat 0)], [], [(some (0, 0, .negSucc 0), ([], []), [(.ofNat 0, .ofNat 100000, 0, .ofNat 0)])], [(false, (0, 0, .ofNat 0))])
/-- GridLawsModel.later, row 5 -/
def zc_l1028 : zC := (287, 5, 1, [(3, 88, .ofNat 0), (0, 0, .ofNat 313)], ([(88, (0, 0, .ofNat 28), (1, 0, .ofNat 0)), (1049, (0, 0, .ofNat 313), (0, 0, .ofNat 0))], []), [(.ofNat 0, .ofNat 100000, 0, .ofNat 0)], [], [(some (0, 0, .negSucc 0), ([], []), [(.ofNat 0, .ofNat 100000, 0, .ofNat 0)])], [(false, (0, 0, .ofNat 0))])
/-- GridLawsModel.later, row 5 -/
def zc_l1029 : zC := (287, 5, 1, [(3, 88, .ofNat 0), (0, 0, .ofNat 314)], ([(88, (0, 0, .ofNat 28), (1, 0, .ofNat 0)), (1049, (0, 0, .ofNat 314), (0, 0, .ofNat 0))], []), [(.ofNat 0, .ofNat 100000, 0, .ofNat 0)], [], [(some (0, 0, .negSucc 0), ([], []), [(.ofNat 0, .ofNat 100000, 0, .ofNat 0)])], [(false, (0, 0, .ofNat 0))])
/-- GridLawsModel.later, row 5 -/
def zc_l1030 : zC := (287, 5, 1, [(3, 88, .ofNat 0), (0, 0, .ofNat 315)], ([(88, (0, 0, .ofNat 28), (1, 0, .ofNat 0)), (1049, (0, 0, .ofNat 315), (0, 0, .ofNat 0))], []), [(.ofNat 0, .ofNat 100000, 0, .ofNat 0)], [], [(some (0, 0, .negSucc 0), ([], []), [(.ofNat 0, .ofNat 100000, 0, .ofNat 0)])], [(false, (0, 0, .ofNat 0))])
/-- GridLawsModel.later, row 5 -/
def zc_l1031 : zC := (287, 5, 1, [(3, 88, .ofNat 0), (0, 0, .ofNat 316)], ([(88, (0, 0, .ofNat 28), (1, 0, .ofNat 0)), (1049, (0, 0, .ofNat 316), (0, 0, .ofNat 0))], []), [(.ofNat 0, .ofNat 100000, 0, .ofNat 0)], [], [(some (0, 0, .negSucc 0), ([], []), [(.ofNat 0, .ofNat 100000, 0, .ofNat 0)])], [(false, (0, 0, .ofNat 0))])
/-- GridLawsModel.later, row 5 -/
def zc_l1032 : zC := (287, 5, 1, [(3, 88, .ofNat 0), (0, 0, .ofNat 317)], ([(88, (0, 0, .ofNat 28), (1, 0, .ofNat 0)), (1049, (0, 0, .ofNat 317), (0, 0, .ofNat 0))], []), [(.ofNat 0, .ofNat 100000, 0, .ofNat 0)], [], [(some (0, 0, .negSucc 0), ([], []), [(.ofNat 0, .ofNat 100000, 0, .ofNat 0)])], [(false, (0, 0, .ofNat 0))])
/-- GridLawsModel.later, row 5 -/
def zc_l1033 : zC := (287, 5, 1, [(3, 88, .ofNat 0), (0, 0, .ofNat 318)], ([(88, (0, 0, .ofNat 28), (1, 0, .ofNat 0)), (1049, (0, 0, .ofNat 318), (0, 0, .ofNat 0))], []), [(.ofNat 0, .ofNat 100000, 0, .ofNat 0)], [], [(some (0, 0, .negSucc 0), ([], []), [(.ofNat 0, .ofNat 100000, 0, .ofNat 0)])], [(false, (0, 0, .ofNat 0))])
/-- GridLawsModel.later, row 5 -/
def zc_l1034 : zC := (287, 5, 1, [(3, 88, .ofNat 0), (0, 0, .ofNat 319)], ([(88, (0, 0, .ofNat 28), (1, 0, .ofNat 0)), (1049, (0, 0, .ofNat 319), (0, 0, .ofNat 0))], []), [(.ofNat 0, .ofNat 100000, 0, .ofNat 0)], [], [(some (0, 0, .negSucc 0), ([], []), [(.ofNat 0, .ofNat 100000, 0, .ofNat 0)])], [(false, (0, 0, .ofNat 0))])
/-- GridLawsModel.later, row 5 -/
def zc_l1035 : zC := (287, 5, 1, [(3, 88, .ofNat 0), (0, 0, .ofNat 320)], ([(88, (0, 0, .ofNat 28), (1, 0, .ofNat 0)), (1049, (0, 0, .ofNat 320), (0, 0, .ofNat 0))], []), [(.ofNat 0, .ofNat 100000, 0, .ofNat 0)], [], [(some (0, 0, .negSucc 0), ([], []), [(.ofNat 0, .ofNat 100000, 0, .ofNat 0)])], [(false, (0, 0, .ofNat 0))])
/-- GridLawsModel.later, row 5 -/
def zc_l1036 : zC := (287, 5, 1, [(3, 88, .ofNat 0), (0, 0, .ofNat 321)], ([(88, (0, 0, .ofNat 28), (1, 0, .ofNat 0)), (1049, (0, 0, .ofNat 321), (0, 0, .ofNat 0))], []), [(.ofNat 0, .ofNat 100000, 0, .ofNat 0)], [], [(some (0, 0, .negSucc 0), ([], []), [(.ofNat 0, .ofNat 100000, 0, .ofNat 0)])], [(false, (0, 0, .ofNat 0))])
/-- GridLawsModel.later, row 5 -/
def zc_l1037 : zC := (287, 5, 1, [(3, 88, .ofNat 0), (0, 0, .ofNat 322)], ([(88, (0, 0, .ofNat 28), (1, 0, .ofNat 0)), (1049, (0, 0, .ofNat 322), (0, 0, .ofNat 0))], []), [(.ofNat 0, .ofNat 100000, 0, .ofNat 0)], [], [(some (0, 0, .negSucc 0), ([], []), [(.ofNat 0, .ofNat 100000, 0, .ofNat 0)])], [(false, (0, 0, .ofNat 0))])
/-- GridLawsModel.later, row 5 -/
def zc_l1038 : zC := (287, 5, 1, [(3, 88, .ofNat 0), (0, 0, .ofNat 323)], ([(88, (0, 0, .ofNat 28), (1, 0, .ofNat 0)), (1049, (0, 0, .ofNat 323), (0, 0, .ofNat 0))], []), [(.ofNat 0, .ofNat 100000, 0, .ofNat 0)], [], [(some (0, 0, .negSucc 0), ([], []), [(.ofNat 0, .ofNat 100000, 0, .ofNat 0)])], [(false, (0, 0, .ofNat 0))])
/-- GridLawsModel.later, row 5 -/
def zc_l1039 : zC := (287, 5, 1, [(3, 88, .ofNat 0), (0, 0, .ofNat 324)], ([(88, (0, 0, .ofNat 28), (1, 0, .ofNat 0)), (1049, (0, 0, .ofNat 324), (0, 0, .ofNat 0))], []), [(.ofNat 0, .ofNat 100000, 0, .ofNat 0)], [], [(some (0, 0, .negSucc 0), ([], []), [(.ofNat 0, .ofNat 100000, 0, .ofNat 0)])], [(false, (0, 0, .ofNat 0))])
/-- GridLawsModel.later, row 5 -/
def zc_l1040 : zC := (287, 5, 1, [(3, 88, .ofNat 0), (0, 0, .ofNat 325)], ([(88, (0, 0, .ofNat 28), (1, 0, .ofNat 0)), (1049, (0, 0, .ofNat 325), (0, 0, .ofNat 0))], []), [(.ofNat 0, .ofNat 100000, 0, .ofNat 0)], [], [(some (0, 0, .negSucc 0), ([], []), [(.ofNat 0, .ofNat 100000, 0, .ofNat 0)])], [(false, (0, 0, .ofNat 0))])
/-- GridLawsModel.later, row 5 -/
def zc_l1041 : zC := (287, 5, 1, [(3, 88, .ofNat 0), (0, 0, .ofNat 326)], ([(88, (0, 0, .ofNat 28), (1, 0, .ofNat 0)), (1049, (0, 0, .ofNat 326), (0, 0, .ofNat 0))], []), [(.ofNat 0, .ofNat 100000, 0, .ofNat 0)], [], [(some (0, 0, .negSucc 0), ([], []), [(.ofNat 0, .ofNat 100000, 0, .ofNat 0)])], [(false, (0, 0, .ofNat 0))])
/-- GridLawsModel.later, row 5 -/
def zc_l1042 : zC := (287, 5, 1, [(3, 88, .ofNat 0), (0, 0, .ofNat 327)], ([(88, (0, 0, .ofNat 28), (1, 0, .ofNat 0)), (1049, (0, 0, .ofNat 327), (0, 0, .ofNat 0))], []), [(.ofNat 0, .ofNat 100000, 0, .ofNat 0)], [], [(some (0, 0, .negSucc 0), ([], []), [(.ofNat 0, .ofNat 100000, 0, .ofNat 0)])], [(false, (0, 0, .ofNat 0))])
/-- GridLawsModel.later, row 5 -/
def zc_l1043 : zC := (287, 5, 1, [(3, 88, .ofNat 0), (0, 0, .ofNat 328)], ([(88, (0, 0, .ofNat 28), (1, 0, .ofNat 0)), (1049, (0, 0, .ofNat 328), (0, 0, .ofNat 0))], []), [(.ofNat 0, .ofNat 100000, 0, .ofNat 0)], [], [(some (0, 0, .negSucc 0), ([], []), [(.ofNat 0, .ofNat 100000, 0, .ofNat 0)])], [(false, (0, 0, .ofNat 0))])
/-- GridLawsModel.later, row 5 -/
def zc_l1044 : zC := (287, 5, 1, [(3, 88, .ofNat 0), (0, 0, .ofNat 329)], ([(88, (0, 0, .ofNat 28), (1, 0, .ofNat 0)), (1049, (0, 0, .ofNat 329), (0, 0, .ofNat 0))], []), [(.ofNat 0, .ofNat 100000, 0, .ofNat 0)], [], [(some (0, 0, .negSucc 0), ([], []), [(.ofNat 0, .ofNat 100000, 0, .ofNat 0)])], [(false, (0, 0, .ofNat 0))])
/-- GridLawsModel.later, row 5 -/
def zc_l1045 : zC := (287, 5, 1, [(3, 88, .ofNat 0), (0, 0, .ofNat 330)], ([(88, (0, 0, .ofNat 28), (1, 0, .ofNat 0)), (1049, (0, 0, .ofNat 330), (0, 0, .ofNat 0))], []), [(.ofNat 0, .ofNat 100000, 0, .ofNat 0)], [], [(some (0, 0, .negSucc 0), ([], []), [(.ofNat 0, .ofNat 100000, 0, .ofNat 0)])], [(false, (0, 0, .ofNat 0))])
/-- GridLawsModel.later, row 5 -/
def zc_l1046 : zC := (287, 5, 1, [(3, 88, .ofNat 0), (0, 0, .ofNat 331)], ([(88, (0, 0, .ofNat 28), (1, 0, .ofNat 0)), (1049, (0, 0, .ofNat 331), (0, 0, .ofNat 0))], []), [(.ofNat 0, .ofNat 100000, 0, .ofNat 0)], [], [(some (0, 0, .negSucc 0), ([], []), [(.ofNat 0, .ofNat 100000, 0, .ofNat 0)])], [(false, (0, 0, .ofNat 0))])
/-- GridLawsModel.later, row 5 -/
def zc_l1047 : zC := (287, 5, 1, [(3, 88, .ofNat 0), (0, 0, .ofNat 332)], ([(88, (0, 0, .ofNat 28), (1, 0, .ofNat 0)), (1049, (0, 0, .ofNat 332), (0, 0, .ofNat 0))], []), [(.ofNat 0, .ofNat 100000, 0, .ofNat 0)], [], [(some (0, 0, .negSucc 0), ([], []), [(.ofNat 0, .ofNat 100000, 0, .ofNat 0)])], [(false, (0, 0, .ofNat 0))])
/-- GridLawsModel.later, row 5 -/
def zc_l1048 : zC := (287, 5, 1, [(3, 88, .ofNat 0), (0, 0, .ofNat 333)], ([(88, (0, 0, .ofNat 28), (1, 0, .ofNat 0)), (1049, (0, 0, .ofNat 333), (0, 0, .ofNat 0))], []), [(.ofNat 0, .ofNat 100000, 0, .ofNat 0)], [], [(some (0, 0, .negSucc 0), ([], []), [(.ofNat 0, .ofNat 100000, 0, .ofNat 0)])], [(false, (0, 0, .ofNat 0))])
/-- GridLawsModel.later, row 5 -/
def zc_l1049 : zC := (287, 5, 1, [(3, 88, .ofNat 0), (0, 0, .ofNat 334)], ([(88, (0, 0, .ofNat 28), (1, 0, .ofNat 0)), (1049, (0, 0, .ofNat 334), (0, 0, .ofNat 0))], []), [(.ofNat 0, .ofNat 100000, 0, .ofNat 0)], [], [(some (0, 0, .negSucc 0), ([], []), [(.ofNat 0, .ofNat 100000, 0, .ofNat 0)])], [(false, (0, 0, .ofNat 0))])
/-- GridLawsModel.later, row 5 -/
def zc_l1050 : zC := (287, 5, 1, [(3, 88, .ofNat 0), (0, 0, .ofNat 335)], ([(88, (0, 0, .ofNat 28), (1, 0, .ofNat 0)), (1049, (0, 0, .ofNat 335), (0, 0, .ofNat 0))], []), [(.ofNat 0, .ofNat 100000, 0, .ofNat 0)], [], [(some (0, 0, .negSucc 0), ([], []), [(.ofNat 0, .ofNat 100000, 0, .ofNat 0)])], [(false, (0, 0, .ofNat 0))])
/-- GridLawsModel.later, row 5 -/
def zc_l1051 : zC := (287, 5, 1, [(3, 88, .ofNat 0), (0, 0, .ofNat 336)], ([(88, (0, 0, .ofNat 28), (1, 0, .ofNat 0)), (1049, (0, 0, .ofNat 336), (0, 0, .ofNat 0))], []), [(.ofNat 0, .ofNat 100000, 0, .ofNat 0)], [], [(some (0, 0, .negSucc 0), ([], []), [(.ofNat 0, .ofNat 100000, 0, .ofNat 0)])], [(false, (0, 0, .ofNat 0))])
/-- GridLawsModel.later, row 5 -/
def zc_l1052 : zC := (287, 5, 1, [(3, 88, .ofNat 0), (0, 0, .ofNat 337)], ([(88, (0, 0, .ofNat 28), (1, 0, .ofNat 0)), (1049, (0, 0, .ofNat 337), (0, 0, .ofNat 0))], []), [(.ofNat 0, .ofNat 100000, 0, .ofNat 0)], [], [(some (0, 0, .negSucc 0), ([], []), [(.ofNat 0, .ofNat 100000, 0, .ofNat 0)])], [(false, (0, 0, .ofNat 0))])
/-- GridLawsModel.later, row 5 -/
def zc_l1053 : zC := (287, 5, 1, [(3, 88, .ofNat 0), (0, 0, .ofNat 338)], ([(88, (0, 0, .ofNat 28), (1, 0, .ofNat 0)), (1049, (0, 0, .ofNat 338), (0, 0, .ofNat 0))], []), [(.ofNat 0, .ofNat 100000, 0, .ofNat 0)], [], [(some (0, 0, .negSucc 0), ([], []), [(.ofNat 0, .ofNat 100000, 0, .ofNat 0)])], [(false, (0, 0, .ofNat 0))])
/-- GridLawsModel.later, row 5 -/
def zc_l1054 : zC := (287, 5, 1, [(3, 88, .ofNat 0), (0, 0, .ofNat 339)], ([(88, (0, 0, .ofNat 28), (1, 0, .ofNat 0)), (1049, (0, 0, .ofNat 339), (0, 0, .ofNat 0))], []), [(.ofNat 0, .ofNat 100000, 0, .ofNat 0)], [], [(some (0, 0, .negSucc 0), ([], []), [(.ofNat 0, .ofNat 100000, 0, .ofNat 0)])], [(false, (0, 0, .ofNat 0))])
/-- GridLawsModel.later, row 5 -/
def zc_l1055 : zC := (287, 5, 1, [(3, 88, .ofNat 0), (0, 0, .ofNat 340)], ([(88, (0, 0, .ofNat 28), (1, 0, .ofNat 0)), (1049, (0, 0, .ofNat 340), (0, 0, .ofNat 0))], []), [(.ofNat 0, .ofNat 100000, 0, .ofNat 0)], [], [(some (0, 0, .negSucc 0), ([], []), [(.ofNat 0, .ofNat 100000, 0, .ofNat 0)])], [(false, (0, 0, .ofNat 0))])
/-- GridLawsModel.later, row 5 -/
def zc_l1056 : zC := (287, 5, 1, [(3, 88, .ofNat 0), (0, 0, .ofNat 341)], ([(88, (0, 0, .ofNat 28), (1, 0, .ofNat 0)), (1049, (0, 0, .ofNat 341), (0, 0, .ofNat 0))], []), [(.ofNat 0, .ofNat 100000, 0, .ofNat 0)], [], [(some (0, 0, .negSucc 0), ([], []), [(.ofNat 0, .ofNat 100000, 0, .ofNat 0)])], [(false, (0, 0, .ofNat 0))])
/-- GridLawsModel.later, row 5 -/
def zc_l1057 : zC := (287, 5, 1, [(3, 88, .ofNat 0), (0, 0, .ofNat 342)], ([(88, (0, 0, .ofNat 28), (1, 0, .ofNat 0)), (1049, (0, 0, .ofNat 342), (0, 0, .ofNat 0))], []), [(.ofNat 0, .ofNat 100000, 0, .ofNat 0)], [], [(some (0, 0, .negSucc 0), ([], []), [(.ofNat 0, .ofNat 100000, 0, .ofNat 0)])], [(false, (0, 0, .ofNat 0))])
/-- GridLawsModel.later, row 5 -/
def zc_l1058 : zC := (287, 5, 1, [(3, 88, .ofNat 0), (0, 0, .ofNat 343)], ([(88, (0, 0, .ofNat 28), (1, 0, .ofNat 0)), (1049, (0, 0, .ofNat 343), (0, 0, .ofNat 0))], []), [(.ofNat 0, .ofNat 100000, 0, .ofNat 0)], [], [(some (0, 0, .negSucc 0), ([], []), [(.ofNat 0, .ofNat 100000, 0, .ofNat 0)])], [(false, (0, 0, .ofNat 0))])
/-- GridLawsModel.later, row 5 -/
def zc_l1059 : zC := (287, 5, 1, [(3, 88, .ofNat 0), (0, 0, .ofNat 344)], ([(88, (0, 0, .ofNat 28), (1, 0, .ofNat 0)), (1049, (0, 0, .ofNat 344), (0, 0, .ofNat 0))], []), [(.ofNat 0, .ofNat 100000, 0, .ofNat 0)], [], [(some (0, 0, .negSucc 0), ([], []), [(.ofNat 0, .ofNat 100000, 0, .ofNat 0)])], [(false, (0, 0, .ofNat 0))])
/-- GridLawsModel.later, row 5 -/
def zc_l1060 : zC := (287, 5, 1, [(3, 88, .ofNat 0), (0, 0, .ofNat 345)], ([(88, (0, 0, .ofNat 28), (1, 0, .ofNat 0)), (1049, (0, 0, .ofNat 345), (0, 0, .ofNat 0))], []), [(.ofNat 0, .ofNat 100000, 0, .ofNat 0)], [], [(some (0, 0, .negSucc 0), ([], []), [(.ofNat 0, .ofNat 100000, 0, .ofNat 0)])], [(false, (0, 0, .ofNat 0))])
/-- GridLawsModel.later, row 5 -/
def zc_l1061 : zC := (287, 5, 1, [(3, 88, .ofNat 0), (0, 0, .ofNat 346)], ([(88, (0, 0, .ofNat 28), (1, 0, .ofNat 0)), (1049, (0, 0, .ofNat 346), (0, 0, .ofNat 0))], []), [(.ofNat 0, .ofNat 100000, 0, .ofNat 0)], [], [(some (0, 0, .negSucc 0), ([], []), [(.ofNat 0, .ofNat 100000, 0, .ofNat 0)])], [(false, (0, 0, .ofNat 0))])
/-- GridLawsModel.later, row 5 -/
def zc_l1062 : zC := (287, 5, 1, [(3, 88, .ofNat 0), (0, 0, .ofNat 347)], ([(88, (0, 0, .ofNat 28), (1, 0, .ofNat 0)), (1049, (0, 0, .ofNat 347), (0, 0, .ofNat 0))], []), [(.ofNat 0, .ofNat 100000, 0, .ofNat 0)], [], [(some (0, 0, .negSucc 0), ([], []), [(.ofNat 0, .ofNat 100000, 0, .ofNat 0)])], [(false, (0, 0, .ofNat 0))])
/-- GridLawsModel.later, row 5 -/
def zc_l1063 : zC := (287, 5, 1, [(3, 88, .ofNat 0), (0, 0, .ofNat 348)], ([(88, (0, 0, .ofNat 28), (1, 0, .ofNat 0)), (1049, (0, 0, .ofNat 348), (0, 0, .ofNat 0))], []), [(.ofNat 0, .ofNat 100000, 0, .ofNat 0)], [], [(some (0, 0, .negSucc 0), ([], []), [(.ofNat 0, .ofNat 100000, 0, .ofNat 0)])], [(false, (0, 0, .ofNat 0))])
/-- GridLawsModel.later, row 5 -/
def zc_l1064 : zC := (287, 5, 1, [(3, 88, .ofNat 0), (0, 0, .ofNat 349)], ([(88, (0, 0, .ofNat 28), (1, 0, .ofNat 0)), (1049, (0, 0, .ofNat 349), (0, 0, .ofNat 0))], []), [(.ofNat 0, .ofNat 100000, 0, .ofNat 0)], [], [(some (0, 0, .negSucc 0), ([], []), [(.ofNat 0, .ofNat 100000, 0, .ofNat 0)])], [(false, (0, 0, .ofNat 0))])
/-- GridLawsModel.later, row 5 -/
def zc_l1065 : zC := (287, 5, 1, [(3, 88, .ofNat 0), (0, 0, .ofNat 350)], ([(88, (0, 0, .ofNat 28), (1, 0, .ofNat 0)), (1049, (0, 0, .ofNat 350), (0, 0, .ofNat 0))], []), [(.ofNat 0, .ofNat 100000, 0, .ofNat 0)], [], [(some (0, 0, .negSucc 0), ([], []), [(.ofNat 0, .ofNat 100000, 0, .ofNat 0)])], [(false, (0, 0, .ofNat 0))])
/-- GridLawsModel.later, row 5 -/
def zc_l1066 : zC := (287, 5, 1, [(3, 88, .ofNat 0), (0, 0, .ofNat 351)], ([(88, (0, 0, .ofNat 28), (1, 0, .ofNat 0)), (1049, (0, 0, .ofNat 351), (0, 0, .ofNat 0))], []), [(.ofNat 0, .ofNat 100000, 0, .ofNat 0)], [], [(some (0, 0, .negSucc 0), ([], []), [(.ofNat 0, .ofNat 100000, 0, .ofNat 0)])], [(false, (0, 0, .ofNat 0))])
/-- GridLawsModel.later, row 5 -/
def zc_l1067 : zC := (287, 5, 1, [(3, 88, .ofNat 0), (0, 0, .ofNat 352)], ([(88, (0, 0, .ofNat 28), (1, 0, .ofNat 0)), (1049, (0, 0, .ofNat 352), (0, 0, .ofNat 0))], []), [(.ofNat 0, .ofNat 100000, 0, .ofNat 0)], [], [(some (0, 0, .negSucc 0), ([], []), [(.ofNat 0, .ofNat 100000, 0, .ofNat 0)])], [(false, (0, 0, .ofNat 0))])
/-- GridLawsModel.later, row 5 -/
def zc_l1068 : zC := (287, 5, 1, [(3, 88, .ofNat 0), (0, 0, .ofNat 353)], ([(88, (0, 0, .ofNat 28), (1, 0, .ofNat 0)), (1049, (0, 0, .ofNat 353), (0, 0, .ofNat 0))], []), [(.ofNat 0, .ofNat 100000, 0, .ofNat 0)], [], [(some (0, 0, .negSucc 0), ([], []), [(.ofNat 0, .ofNat 100000, 0, .ofNat 0)])], [(false, (0, 0, .ofNat 0))])
/-- GridLawsModel.later, row 5 -/
def zc_l1069 : zC := (287, 5, 1, [(3, 88, .ofNat 0), (0, 0, .ofNat 354)], ([(88, (0, 0, .ofNat 28), (1, 0, .ofNat 0)), (1049, (0, 0, .ofNat 354), (0, 0, .ofNat 0))], []), [(.ofNat 0, .ofNat 100000, 0, .ofNat 0)], [], [(some (0, 0, .negSucc 0), ([], []), [(.ofNat 0, .ofNat 100000, 0, .ofNat 0)])], [(false, (0, 0, .ofNat 0))])
/-- GridLawsModel.later, row 5 -/
def zc_l1070 : zC := (287, 5, 1, [(3, 88, .ofNat 0), (0, 0, .ofNat 355)], ([(88, (0, 0, .ofNat 28), (1, 0, .ofNat 0)), (1049, (0, 0, .ofNat 355), (0, 0, .ofNat 0))], []), [(.ofNat 0, .ofNat 100000, 0, .ofNat 0)], [], [(some (0, 0, .negSucc 0), ([], []), [(.ofNat 0, .ofNat 100000, 0, .ofNat 0)])], [(false, (0, 0, .ofNat 0))])
/-- GridLawsModel.later, row 5 -/
def zc_l1071 : zC := (287, 5, 1, [(3, 88, .ofNat 0), (0, 0, .ofNat 356)], ([(88, (0, 0, .ofNat 28), (1, 0, .ofNat 0)), (1049, (0, 0, .ofNat 356), (0, 0, .ofNat 0))], []), [(.ofNat 0, .ofNat 100000, 0, .ofNat 0)], [], [(some (0, 0, .negSucc 0), ([], []), [(.ofNat 0, .ofNat 100000, 0, .ofNat 0)])], [(false, (0, 0, .ofNat 0))])
/-- GridLawsModel.later, row 5 -/
def zc_l1072 : zC := (287, 5, 1, [(3, 88, .ofNat 0), (0, 0, .ofNat 357)], ([(88, (0, 0, .ofNat 28), (1, 0, .ofNat 0)), (1049, (0, 0, .ofNat 357), (0, 0, .ofNat 0))], []), [(.ofNat 0, .ofNat 100000, 0, .ofNat 0)], [], [(some (0, 0, .negSucc 0), ([], []), [(.ofNat 0, .ofNat 100000, 0, .ofNat 0)])], [(false, (0, 0, .ofNat 0))])
/-- GridLawsModel.later, row 5 -/
def zc_l1073 : zC := (287, 5, 1, [(3, 88, .ofNat 0), (0, 0, .ofNat 358)], ([(88, (0, 0, .ofNat 28), (1, 0, .ofNat 0)), (1049, (0, 0, .ofNat 358), (0, 0, .ofNat 0))], []), [(.ofNat 0, .ofNat 100000, 0, .ofNat 0)], [], [(some (0, 0, .negSucc 0), ([], []), [(.ofNat 0, .ofNat 100000, 0, .ofNat 0)])], [(false, (0, 0, .ofNat 0))])
/-- GridLawsModel.later, row 5 -/
def zc_l1074 : zC := (287, 5, 1, [(3, 88, .ofNat 0), (0, 0, .ofNat 359)], ([(88, (0, 0, .ofNat 28), (1, 0, .ofNat 0)), (1049, (0, 0, .ofNat 359), (0, 0, .ofNat 0))], []), [(.ofNat 0, .ofNat 100000, 0, .ofNat 0)], [], [(some (0, 0, .negSucc 0), ([], []), [(.ofNat 0, .ofNat 100000, 0, .ofNat 0)])], [(false, (0, 0, .ofNat 0))])
/-- GridLawsModel.later, row 5 -/
def zc_l1075 : zC := (287, 5, 1, [(3, 88, .ofNat 0), (0, 0, .ofNat 360)], ([(88, (0, 0, .ofNat 28), (1, 0, .ofNat 0)), (1049, (0, 0, .ofNat 360), (0, 0, .ofNat 0))], []), [(.ofNat 0, .ofNat 100000, 0, .ofNat 0)], [], [(some (0, 0, .negSucc 0), ([], []), [(.ofNat 0, .ofNat 100000, 0, .ofNat 0)])], [(false, (0, 0, .ofNat 0))])
/-- GridLawsModel.later, row 5 -/
def zc_l1076 : zC := (287, 5, 1, [(3, 88, .ofNat 0), (0, 0, .ofNat 361)], ([(88, (0, 0, .ofNat 28), (1, 0, .ofNat 0)), (1049, (0, 0, .ofNat 361), (0, 0, .ofNat 0))], []), [(.ofNat 0, .ofNat 100000, 0, .ofNat 0)], [], [(some (0, 0, .negSucc 0), ([], []), [(.ofNat 0, .ofNat 100000, 0, .ofNat 0)])], [(false, (0, 0, .ofNat 0))])
/-- GridLawsModel.later, row 5 -/
def zc_l1077 : zC := (287, 5, 1, [(3, 88, .ofNat 0), (0, 0, .ofNat 362)], ([(88, (0, 0, .ofNat 28), (1, 0, .ofNat 0)), (1049, (0, 0, .ofNat 362), (0, 0, .ofNat 0))], []), [(.ofNat 0, .ofNat 100000, 0, .ofNat 0)], [], [(some (0, 0, .negSucc 0), ([], []), [(.ofNat 0, .ofNat 100000, 0, .ofNat 0)])], [(false, (0, 0, .ofNat 0))])
/-- GridLawsModel.later, row 5 -/
def zc_l1078 : zC := (287, 5, 1, [(3, 88, .ofNat 0), (0, 0, .ofNat 363)], ([(88, (0, 0, .ofNat 28), (1, 0, .ofNat 0)), (1049, (0, 0, .ofNat 363), (0, 0, .ofNat 0))], []), [(.ofNat 0, .ofNat 100000, 0, .ofNat 0)], [], [(some (0, 0, .negSucc 0), ([], []), [(.ofNat 0, .ofNat 100000, 0, .ofNat 0)])], [(false, (0, 0, .ofNat 0))])
/-- GridLawsModel.later, row 5 -/
def zc_l1079 : zC := (287, 5, 1, [(3, 88, .ofNat 0), (0, 0, .ofNat 364)], ([(88, (0, 0, .ofNat 28), (1, 0, .ofNat 0)), (1049, (0, 0, .ofNat 364), (0, 0, .ofNat 0))], []), [(.ofNat 0, .ofNat 100000, 0, .ofNat 0)], [], [(some (0, 0, .negSucc 0), ([], []), [(.ofNat 0, .ofNat 100000, 0, .ofNat 0)])], [(false, (0, 0, .ofNat 0))])
/-- GridLawsModel.later, row 5 -/
def zc_l1080 : zC := (287, 5, 1, [(3, 88, .ofNat 0), (0, 0, .ofNat 365)], ([(88, (0, 0, .ofNat 28), (1, 0, .ofNat 0)), (1049, (0, 0, .ofNat 365), (0, 0, .ofNat 0))], []), [(.ofNat 0, .ofNat 100000, 0, .ofNat 0)], [], [(some (0, 0, .negSucc 0), ([], []), [(.ofNat 0, .ofNat 100000, 0, .ofNat 0)])], [(false, (0, 0, .ofNat 0))])
/-- GridLawsModel.later, row 5 -/
def zc_l1081 : zC := (287, 5, 1, [(3, 88, .ofNat 0), (0, 0, .ofNat 366)], ([(88, (0, 0, .ofNat 28), (1, 0, .ofNat 0)), (1049, (0, 0, .ofNat 366), (0, 0, .ofNat 0))], []), [(.ofNat 0, .ofNat 100000, 0, .ofNat 0)], [], [(some (0, 0, .negSucc 0), ([], []), [(.ofNat 0, .ofNat 100000, 0, .ofNat 0)])], [(false, (0, 0, .ofNat 0))])
/-- GridLawsModel.later, row 5 -/
def zc_l1082 : zC := (287, 5, 1, [(3, 88, .ofNat 0), (0, 0, .ofNat 367)], ([(88, (0, 0, .ofNat 28), (1, 0, .ofNat 0)), (1049, (0, 0, .ofNat 367), (0, 0, .ofNat 0))], []), [(.ofNat 0, .ofNat 100000, 0, .ofNat 0)], [], [(some (0, 0, .negSucc 0), ([], []), [(.ofNat 0, .ofNat 100000, 0, .ofNat 0)])], [(false, (0, 0, .ofNat 0))])
/-- GridLawsModel.later, row 5 -/
def zc_l1083 : zC := (287, 5, 1, [(3, 88, .ofNat 0), (0, 0, .ofNat 368)], ([(88, (0, 0, .ofNat 28), (1, 0, .ofNat 0)), (1049, (0, 0, .ofNat 368), (0, 0, .ofNat 0))], []), [(.ofNat 0, .ofNat 100000, 0, .ofNat 0)], [], [(some (0, 0, .negSucc 0), ([], []), [(.ofNat 0, .ofNat 100000, 0, .ofNat 0)])], [(false, (0, 0, .ofNat 0))])
/-- GridLawsModel.later, row 5 -/
def zc_l1084 : zC := (287, 5, 1, [(3, 88, .ofNat 0), (0, 0, .ofNat 369)], ([(88, (0, 0, .ofNat 28), (1, 0, .ofNat 0)), (1049, (0, 0, .ofNat 369), (0, 0, .ofNat 0))], []), [(.ofNat 0, .ofNat 100000, 0, .ofNat 0)], [], [(some (0, 0, .negSucc 0), ([], []), [(.ofNat 0, .ofNat 100000, 0, .ofNat 0)])], [(false, (0, 0, .ofNat 0))])
/-- GridLawsModel.later, row 5 -/
def zc_l1085 : zC := (287, 5, 1, [(3, 88, .ofNat 0), (0, 0, .ofNat 370)], ([(88, (0, 0, .ofNat 28), (1, 0, .ofNat 0)), (1049, (0, 0, .ofNat 370), (0, 0, .ofNat 0))], []), [(.ofNat 0, .ofNat 100000, 0, .ofNat 0)], [], [(some (0, 0, .negSucc 0), ([], []), [(.ofNat 0, .ofNat 100000, 0, .ofNat 0)])], [(false, (0, 0, .ofNat 0))])
/-- GridLawsModel.later, row 5 -/
def zc_l1086 : zC := (287, 5, 1, [(3, 88, .ofNat 0), (0, 0, .ofNat 371)], ([(88, (0, 0, .ofNat 28), (1, 0, .ofNat 0)), (1049, (0, 0, .ofNat 371), (0, 0, .ofNat 0))], []), [(.ofNat 0, .ofNat 100000, 0, .ofNat 0)], [], [(some (0, 0, .negSucc 0), ([], []), [(.ofNat 0, .ofNat 100000, 0, .ofNat 0)])], [(false, (0, 0, .ofNat 0))])
/-- GridLawsModel.later, row 5 -/
def zc_l1087 : zC := (287, 5, 1, [(3, 88, .ofNat 0), (0, 0, .ofNat 372)], ([(88, (0, 0, .ofNat 28), (1, 0, .ofNat 0)), (1049, (0, 0, .ofNat 372), (0, 0, .ofNat 0))], []), [(.ofNat 0, .ofNat 100000, 0, .ofNat 0)], [], [(some (0, 0, .negSucc 0), ([], []), [(.ofNat 0, .ofNat 100000, 0, .ofNat 0)])], [(false, (0, 0, .ofNat 0))])
/-- GridLawsModel.later, row 5 -/
def zc_l1088 : zC := (287, 5, 1, [(3, 88, .ofNat 0), (0, 0, .ofNat 373)], ([(88, (0, 0, .ofNat 28), (1, 0, .ofNat 0)), (1049, (0, 0, .ofNat 373), (0, 0, .ofNat 0))], []), [(.ofNat 0, .ofNat 100000, 0, .ofNat 0)], [], [(some (0, 0, .negSucc 0), ([], []), [(.ofNat 0, .ofNat 100000, 0, .ofNat 0)])], [(false, (0, 0, .ofNat 0))])
/-- GridLawsModel.later, row 5 -/
def zc_l1089 : zC := (287, 5, 1, [(3, 88, .ofNat 0), (0, 0, .ofNat 374)], ([(88, (0, 0, .ofNat 28), (1, 0, .ofNat 0)), (1049, (0, 0, .ofNat 374), (0, 0, .ofNat 0))], []), [(.ofNat 0, .ofNat 100000, 0, .ofNat 0)], [], [(some (0, 0, .negSucc 0), ([], []), [(.ofNat 0, .ofNat 100000, 0, .ofNat 0)])], [(false, (0, 0, .ofNat 0))])
/-- GridLawsModel.later, row 5 -/
def zc_l1090 : zC := (287, 5, 1, [(3, 88, .ofNat 0), (0, 0, .ofNat 375)], ([(88, (0, 0, .ofNat 28), (1, 0, .ofNat 0)), (1049, (0, 0, .ofNat 375), (0, 0, .ofNat 0))], []), [(.ofNat 0, .ofNat 100000, 0, .ofNat 0)], [], [(some (0, 0, .negSucc 0), ([], []), [(.ofNat 0, .ofNat 100000, 0, .ofNat 0)])], [(false, (0, 0, .ofNat 0))])
/-- GridLawsModel.later, row 5 -/
def zc_l1091 : zC := (287, 5, 1, [(3, 88, .ofNat 0), (0, 0, .ofNat 376)], ([(88, (0, 0, .ofNat 28), (1, 0, .ofNat 0)), (1049, (0, 0, .ofNat 376), (0, 0, .ofNat 0))], []), [(.ofNat 0, .ofNat 100000, 0, .ofNat 0)], [], [(some (0, 0, .negSucc 0), ([], []), [(.ofNat 0, .ofNat 100000, 0, .ofNat 0)])], [(false, (0, 0, .ofNat 0))])
/-- GridLawsModel.later, row 5 -/
def zc_l1092 : zC := (287, 5, 1, [(3, 88, .ofNat 0), (0, 0, .ofNat 377)], ([(88, (0, 0, .ofNat 28), (1, 0, .ofNat 0)), (1049, (0, 0, .ofNat 377), (0, 0, .ofNat 0))], []), [(.ofNat 0, .ofNat 100000, 0, .ofNat 0)], [], [(some (0, 0, .negSucc 0), ([], []), [(.ofNat 0, .ofNat 100000, 0, .ofNat 0)])], [(false, (0, 0, .ofNat 0))])
/-- GridLawsModel.later, row 5 -/
def zc_l1093 : zC := (287, 5, 1, [(3, 88, .ofNat 0), (0, 0, .ofNat 378)], ([(88, (0, 0, .ofNat 28), (1, 0, .ofNat 0)), (1049, (0, 0, .ofNat 378), (0, 0, .ofNat 0))], []), [(.ofNat 0, .ofNat 100000, 0, .ofNat 0)], [], [(some (0, 0, .negSucc 0), ([], []), [(.ofNat 0, .ofNat 100000, 0, .ofNat 0)])], [(false, (0, 0, .ofNat 0))])
/-- GridLawsModel.later, row 5 -/
def zc_l1094 : zC := (287, 5, 1, [(3, 88, .ofNat 0), (0, 0, .ofNat 379)], ([(88, (0, 0, .ofNat 28), (1, 0, .ofNat 0)), (1049, (0, 0, .ofNat 379), (0, 0, .ofNat 0))], []), [(.ofNat 0, .ofNat 100000, 0, .ofNat 0)], [], [(some (0, 0, .negSucc 0), ([], []), [(.ofNat 0, .ofNat 100000, 0, .ofNat 0)])], [(false, (0, 0, .ofNat 0))])
/-- GridLawsModel.later, row 5 -/
def zc_l1095 : zC := (287, 5, 1, [(3, 88, .ofNat 0), (0, 0, .ofNat 380)], ([(88, (0, 0, .ofNat 28), (1, 0, .ofNat 0)), (1049, (0, 0, .ofNat 380), (0, 0, .ofNat 0))], []), [(.ofNat 0, .ofNat 100000, 0, .ofNat 0)], [], [(some (0, 0, .negSucc 0), ([], []), [(.ofNat 0, .ofNat 100000, 0, .ofNat 0)])], [(false, (0, 0, .ofNat 0))])
/-- GridLawsModel.later, row 5 -/
def zc_l1096 : zC := (287, 5, 1, [(3, 88, .ofNat 0), (0, 0, .ofNat 381)], ([(88, (0, 0, .ofNat 28), (1, 0, .ofNat 0)), (1049, (0, 0, .ofNat 381), (0, 0, .ofNat 0))], []), [(.ofNat 0, .ofNat 100000, 0, .ofNat 0)], [], [(some (0, 0, .negSucc 0), ([], []), [(.ofNat 0, .ofNat 100000, 0, .ofNat 0)])], [(false, (0, 0, .ofNat 0))])
/-- GridLawsModel.later, row 5 -/
def zc_l1097 : zC := (287, 5, 1, [(3, 88, .ofNat 0), (0, 0, .ofNat 382)], ([(88, (0, 0, .ofNat 28), (1, 0, .ofNat 0)), (1049, (0, 0, .ofNat 382), (0, 0, .ofNat 0))], []), [(.ofNat 0, .ofNat 100000, 0, .ofNat 0)], [], [(some (0, 0, .negSucc 0), ([], []), [(.ofNat 0, .ofNat 100000, 0, .ofNat 0)])], [(false, (0, 0, .ofNat 0))])
/-- GridLawsModel.later, row 5 -/
def zc_l1098 : zC := (287, 5, 1, [(3, 88, .ofNat 0), (0, 0, .ofNat 383)], ([(88, (0, 0, .ofNat 28), (1, 0, .ofNat 0)), (1049, (0, 0, .ofNat 383), (0, 0, .ofNat 0))], []), [(.ofNat 0, .ofNat 100000, 0, .ofNat 0)], [], [(some (0, 0, .negSucc 0), ([], []), [(.ofNat 0, .ofNat 100000, 0, .ofNat 0)])], [(false, (0, 0, .ofNat 0))])
/-- GridLawsModel.later, row 5 -/
def zc_l1099 : zC := (287, 5, 1, [(3, 88, .ofNat 0), (0, 0, .ofNat 384)], ([(88, (0, 0, .ofNat 28), (1, 0, .ofNat 0)), (1049, (0, 0, .ofNat 384), (0, 0, .ofNat 0))], []), [(.ofNat 0, .ofNat 100000, 0, .ofNat 0)], [], [(some (0, 0, .negSucc 0), ([], []), [(.ofNat 0, .ofNat 100000, 0, .ofNat 0)])], [(false, (0, 0, .ofNat 0))])
/-- GridLawsModel.later, row 5 -/
def zc_l1100 : zC := (287, 5, 1, [(3, 88, .ofNat 0), (0, 0, .ofNat 385)], ([(88, (0, 0, .ofNat 28), (1, 0, .ofNat 0)), (1049, (0, 0, .ofNat 385), (0, 0, .ofNat 0))], []), [(.ofNat 0, .ofNat 100000, 0, .ofNat 0)], [], [(some (0, 0, .negSucc 0), ([], []), [(.ofNat 0, .ofNat 100000, 0, .ofNat 0)])], [(false, (0, 0, .ofNat 0))])
/-- GridLawsModel.later, row 5 -/
def zc_l1101 : zC := (287, 5, 1, [(3, 88, .ofNat 0), (0, 0, .ofNat 386)], ([(88, (0, 0, .ofNat 28), (1, 0, .ofNat 0)), (1049, (0, 0, .ofNat 386), (0, 0, .ofNat 0))], []), [(.ofNat 0, .ofNat 100000, 0, .ofNat 0)], [], [(some (0, 0, .negSucc 0), ([], []), [(.ofNat 0, .ofNat 100000, 0, .ofNat 0)])], [(false, (0, 0, .ofNat 0))])
/-- GridLawsModel.later, row 5 -/
def zc_l1102 : zC := (287, 5, 1, [(3, 88, .ofNat 0), (0, 0, .ofNat 387)], ([(88, (0, 0, .ofNat 28), (1, 0, .ofNat 0)), (1049, (0, 0, .ofNat 387), (0, 0, .ofNat 0))], []), [(.ofNat 0, .ofNat 100000, 0, .ofNat 0)], [], [(some (0, 0, .negSucc 0), ([], []), [(.ofNat 0, .ofNat 100000, 0, .ofNat 0)])], [(false, (0, 0, .ofNat 0))])
/-- GridLawsModel.later, row 5 -/
def zc_l1103 : zC := (287, 5, 1, [(3, 88, .ofNat 0), (0, 0, .ofNat 388)], ([(88, (0, 0, .ofNat 28), (1, 0, .ofNat 0)), (1049, (0, 0, .ofNat 388), (0, 0, .ofNat 0))], []), [(.ofNat 0, .ofNat 100000, 0, .ofNat 0)], [], [(some (0, 0, .negSucc 0), ([], []), [(.ofNat 0, .ofNat 100000, 0, .ofNat 0)])], [(false, (0, 0, .ofNat 0))])
/-- GridLawsModel.later, row 5 -/
def zc_l1104 : zC := (287, 5, 1, [(3, 88, .ofNat 0), (0, 0, .ofNat 389)], ([(88, (0, 0, .ofNat 28), (1, 0, .ofNat 0)), (1049, (0, 0, .ofNat 389), (0, 0, .ofNat 0))], []), [(.ofNat 0, .ofNat 100000, 0, .ofNat 0)], [], [(some (0, 0, .negSucc 0), ([], []), [(.ofNat 0, .ofNat 100000, 0, .ofNat 0)])], [(false, (0, 0, .ofNat 0))])
/-- GridLawsModel.later, row 5 -/
def zc_l1105 : zC := (287, 5, 1, [(3, 88, .ofNat 0), (0, 0, .ofNat 390)], ([(88, (0, 0, .ofNat 28), (1, 0, .ofNat 0)), (1049, (0, 0, .ofNat 390), (0, 0, .ofNat 0))], []), [(.ofNat 0, .ofNat 100000, 0, .ofNat 0)], [], [(some (0, 0, .negSucc 0), ([], []), [(.ofNat 0, .ofNat 100000, 0, .ofNat 0)])], [(false, (0, 0, .ofNat 0))])
/-- GridLawsModel.later, row 5 -/
def zc_l1106 : zC := (287, 5, 1, [(3, 88, .ofNat 0), (0, 0, .ofNat 391)], ([(88, (0, 0, .ofNat 28), (1, 0, .ofNat 0)), (1049, (0, 0, .ofNat 391), (0, 0, .ofNat 0))], []), [(.ofNat 0, .ofNat 100000, 0, .ofNat 0)], [], [(some (0, 0, .negSucc 0), ([], []), [(.ofNat 0, .ofNat 100000, 0, .ofNat 0)])], [(false, (0, 0, .ofNat 0))])
/-- GridLawsModel.later, row 5 -/
def zc_l1107 : zC := (287, 5, 1, [(3, 88, .ofNat 0), (0, 0, .ofNat 392)], ([(88, (0, 0, .ofNat 28), (1, 0, .ofNat 0)), (1049, (0, 0, .ofNat 392), (0, 0, .ofNat 0))], []), [(.ofNat 0, .ofNat 100000, 0, .ofNat 0)], [], [(some (0, 0, .negSucc 0), ([], []), [(.ofNat 0, .ofNat 100000, 0, .ofNat 0)])], [(false, (0, 0, .ofNat 0))])
/-- GridLawsModel.later, row 5 -/
def zc_l1108 : zC := (287, 5, 1, [(3, 88, .ofNat 0), (0, 0, .ofNat 393)], ([(88, (0, 0, .ofNat 28), (1, 0, .ofNat 0)), (1049, (0, 0, .ofNat 393), (0, 0, .ofNat 0))], []), [(.ofNat 0, .ofNat 100000, 0, .ofNat 0)], [], [(some (0, 0, .negSucc 0), ([], []), [(.ofNat 0, .ofNat 100000, 0, .ofNat 0)])], [(false, (0, 0, .ofNat 0))])
/-- GridLawsModel.later, row 5 -/
def zc_l1109 : zC := (287, 5, 1, [(3, 88, .ofNat 0), (0, 0, .ofNat 394)], ([(88, (0, 0, .ofNat 28), (1, 0, .ofNat 0)), (1049, (0, 0, .ofNat 394), (0, 0, .ofNat 0))], []), [(.ofNat 0, .ofNat 100000, 0, .ofNat 0)], [], [(some (0, 0, .negSucc 0), ([], []), [(.ofNat 0, .ofNat 100000, 0, .ofNat 0)])], [(false, (0, 0, .ofNat 0))])
/-- GridLawsModel.later, row 5 -/
def zc_l1110 : zC := (287, 5, 1, [(3, 88, .ofNat 0), (0, 0, .ofNat 395)], ([(88, (0, 0, .ofNat 28), (1, 0, .ofNat 0)), (1049, (0, 0, .ofNat 395), (0, 0, .ofNat 0))], []), [(.ofNat 0, .ofNat 100000, 0, .ofNat 0)], [], [(some (0, 0, .negSucc 0), ([], []), [(.ofNat 0, .ofNat 100000, 0, .ofNat 0)])], [(false, (0, 0, .ofNat 0))])
/-- GridLawsModel.later, row 5 -/
def zc_l1111 : zC := (287, 5, 1, [(3, 88, .ofNat 0), (0, 0, .ofNat 396)], ([(88, (0, 0, .ofNat 28), (1, 0, .ofNat 0)), (1049, (0, 0, .ofNat 396), (0, 0, .ofNat 0))], []), [(.ofNat 0, .ofNat 100000, 0, .ofNat 0)], [], [(some (0, 0, .negSucc 0), ([], []), [(.ofNat 0, .ofNat 100000, 0, .ofNat 0)])], [(false, (0, 0, .ofNat 0))])
/-- GridLawsModel.later, row 5 -/
def zc_l1112 : zC := (287, 5, 1, [(3, 88, .ofNat 0), (0, 0, .ofNat 397)], ([(88, (0, 0, .ofNat 28), (1, 0, .ofNat 0)), (1049, (0, 0, .ofNat 397), (0, 0, .ofNat 0))], []), [(.ofNat 0, .ofNat 100000, 0, .ofNat 0)], [], [(some (0, 0, .negSucc 0), ([], []), [(.ofNat 0, .ofNat 100000, 0, .ofNat 0)])], [(false, (0, 0, .ofNat 0))])
/-- GridLawsModel.later, row 5 -/
def zc_l1113 : zC := (287, 5, 1, [(3, 88, .ofNat 0), (0, 0, .ofNat 398)], ([(88, (0, 0, .ofNat 28), (1, 0, .ofNat 0)), (1049, (0, 0, .ofNat 398), (0, 0, .ofNat 0))], []), [(.ofNat 0, .ofNat 100000, 0, .ofNat 0)], [], [(some (0, 0, .negSucc 0), ([], []), [(.ofNat 0, .ofNat 100000, 0, .ofNat 0)])], [(false, (0, 0, .ofNat 0))])
/-- GridLawsModel.later, row 5 -/
def zc_l1114 : zC := (287, 5, 1, [(3, 88, .ofNat 0), (0, 0, .ofNat 399)], ([(88, (0, 0, .ofNat 28), (1, 0, .ofNat 0)), (1049, (0, 0, .ofNat 399), (0, 0, .ofNat 0))], []), [(.ofNat 0, .ofNat 100000, 0, .ofNat 0)], [], [(some (0, 0, .negSucc 0), ([], []), [(.ofNat 0, .ofNat 100000, 0, .ofNat 0)])], [(false, (0, 0, .ofNat 0))])
def zgl_l1014_0 : List zC := [zc_l1014, zc_l1015, zc_l1016, zc_l1017, zc_l1018, zc_l1019, zc_l1020, zc_l1021, zc_l1022, zc_l1023, zc_l1024, zc_l1025, zc_l1026, zc_l1027, zc_l1028, zc_l1029]
def zgl_l1014_1 : List zC := [zc_l1030, zc_l1031, zc_l1032, zc_l1033, zc_l1034, zc_l1035, zc_l1036, zc_l1037, zc_l1038, zc_l1039, zc_l1040, zc_l1041, zc_l1042, zc_l1043, zc_l1044, zc_l1045]
def zgl_l1014_2 : List zC := [zc_l1046, zc_l1047, zc_l1048, zc_l1049, zc_l1050, zc_l1051, zc_l1052, zc_l1053, zc_l1054, zc_l1055, zc_l1056, zc_l1057, zc_l1058, zc_l1059, zc_l1060, zc_l1061]
def zgl_l1014_3 : List zC := [zc_l1062, zc_l1063, zc_l1064, zc_l1065, zc_l1066, zc_l1067, zc_l1068, zc_l1069, zc_l1070, zc_l1071, zc_l1072, zc_l1073, zc_l1074, zc_l1075, zc_l1076, zc_l1077]
def zgl_l1014_4 : List zC := [zc_l1078, zc_l1079, zc_l1080, zc_l1081, zc_l1082, zc_l1083, zc_l1084, zc_l1085, zc_l1086, zc_l1087, zc_l1088, zc_l1089, zc_l1090, zc_l1091, zc_l1092, zc_l1093]
def zgl_l1014_5 : List zC := [zc_l1094, zc_l1095, zc_l1096, zc_l1097, zc_l1098, zc_l1099, zc_l1100, zc_l1101, zc_l1102, zc_l1103, zc_l1104, zc_l1105, zc_l1106, zc_l1107, zc_l1108, zc_l1109]
def zgl_l1014_6 : List zC := [zc_l1110, zc_l1111, zc_l1112, zc_l1113, zc_l1114]
def zgl_l1014 : List zC := zgl_l1014_0 ++ (zgl_l1014_1 ++ (zgl_l1014_2 ++ (zgl_l1014_3 ++ (zgl_l1014_4 ++ (zgl_l1014_5 ++ (zgl_l1014_6))))))
def zgh_l1014_0 : List (zC × zHt) := [(zc_l1014, [(5, 0, 0), (5, 1, 0)]), (zc_l1015, [(13, 2, 94)]), (zc_l1016, [(13, 2, 94)]), (zc_l1017, [(13, 2, 94)]), (zc_l1018, [(13, 2, 94)]), (zc_l1019, [(13, 2, 94)]), (zc_l1020, [(13, 2, 94)]), (zc_l1021, [(13, 2, 94)]), (zc_l1022, [(13, 2, 94)]), (zc_l1023, [(13, 2, 94)]), (zc_l1024, [(13, 2, 94)]), (zc_l1025, [(13, 2, 94)]), (zc_l1026, [(13, 2, 94)]), (zc_l1027, [(13, 2, 94)]), (zc_l1028, [(13, 2, 94)]), (zc_l1029, [(13, 2, 94)])]
def zgh_l1014_1 : List (zC × zHt) := [(zc_l1030, [(13, 2, 94)]), (zc_l1031, [(13, 2, 94)]), (zc_l1032, [(13, 2, 94)]), (zc_l1033, [(13, 2, 94)]), (zc_l1034, [(13, 2, 94)]), (zc_l1035, [(13, 2, 94)]), (zc_l1036, [(13, 2, 94)]), (zc_l1037, [(13, 2, 94)]), (zc_l1038, [(13, 2, 94)]), (zc_l1039, [(13, 2, 94)]), (zc_l1040, [(13, 2, 94)]), (zc_l1041, [(13, 2, 94)]), (zc_l1042, [(13, 2, 94)]), (zc_l1043, [(13, 2, 94)]), (zc_l1044, [(13, 2, 94)]), (zc_l1045, [(13, 2, 94)])]
def zgh_l1014_2 : List (zC × zHt) := [(zc_l1046, [(13, 2, 94)]), (zc_l1047, [(13, 2, 94)]), (zc_l1048, [(13, 2, 94)]), (zc_l1049, [(13, 2, 94)]), (zc_l1050, [(13, 2, 94)]), (zc_l1051, [(13, 2, 94)]), (zc_l1052, [(13, 2, 94)]), (zc_l1053, [(13, 2, 94)]), (zc_l1054, [(13, 2, 94)]), (zc_l1055, [(13, 2, 94)]), (zc_l1056, [(13, 2, 94)]), (zc_l1057, [(13, 2, 94)]), (zc_l1058, [(13, 2, 94)]), (zc_l1059, [(13, 2, 94)]), (zc_l1060, [(13, 2, 94)]), (zc_l1061, [(13, 2, 94)])]
def zgh_l1014_3 : List (zC × zHt) := [(zc_l1062, [(13, 2, 94)]), (zc_l1063, [(13, 2, 94)]), (zc_l1064, [(13, 2, 94)]), (zc_l1065, [(13, 2, 94)]), (zc_l1066, [(13, 2, 94)]), (zc_l1067, [(13, 2, 94)]), (zc_l1068, [(13, 2, 94)]), (zc_l1069, [(13, 2, 94)]), (zc_l1070, [(13, 2, 94)]), (zc_l1071, [(13, 2, 94)]), (zc_l1072, [(13, 2, 94)]), (zc_l1073, [(13, 2, 94)]), (zc_l1074, [(13, 2, 94)]), (zc_l1075, [(13, 2, 94)]), (zc_l1076, [(13, 2, 94)]), (zc_l1077, [(13, 2, 94)])]
def zgh_l1014_4 : List (zC × zHt) := [(zc_l1078, [(13, 2, 94)]), (zc_l1079, [(13, 2, 94)]), (zc_l1080, [(13, 2, 94)]), (zc_l1081, [(13, 2, 94)]), (zc_l1082, [(13, 2, 94)]), (zc_l1083, [(13, 2, 94)]), (zc_l1084, [(13, 2, 94)]), (zc_l1085, [(13, 2, 94)]), (zc_l1086, [(13, 2, 94)]), (zc_l1087, [(13, 2, 94)]), (zc_l1088, [(13, 2, 94)]), (zc_l1089, [(13, 2, 94)]), (zc_l1090, [(13, 2, 94)]), (zc_l1091, [(13, 2, 94)]), (zc_l1092, [(13, 2, 94)]), (zc_l1093, [(13, 2, 94)])]
def zgh_l1014_5 : List (zC × zHt) := [(zc_l1094, [(13, 2, 94)]), (zc_l1095, [(13, 2, 94)]), (zc_l1096, [(13, 2, 94)]), (zc_l1097, [(13, 2, 94)]), (zc_l1098, [(13, 2, 94)]), (zc_l1099, [(13, 2, 94)]), (zc_l1100, [(13, 2, 94)]), (zc_l1101, [(13, 2, 94)]), (zc_l1102, [(13, 2, 94)]), (zc_l1103, [(13, 2, 94)]), (zc_l1104, [(13, 2, 94)]), (zc_l1105, [(13, 2, 94)]), (zc_l1106, [(13, 2, 94)]), (zc_l1107, [(13, 2, 94)]), (zc_l1108, [(13, 2, 94)]), (zc_l1109, [(13, 2, 94)])]
def zgh_l1014_6 : List (zC × zHt) := [(zc_l1110, [(13, 2, 94)]), (zc_l1111, [(13, 2, 94)]), (zc_l1112, [(13, 2, 94)]), (zc_l1113, [(13, 2, 94)]), (zc_l1114, [(13, 2, 94)])]
theorem zge_l1014_0 : zgh_l1014_0.map Prod.fst = zgl_l1014_0 := rfl
theorem zge_l1014_1 : zgh_l1014_1.map Prod.fst = zgl_l1014_1 := rfl
theorem zge_l1014_2 : zgh_l1014_2.map Prod.fst = zgl_l1014_2 := rfl
theorem zge_l1014_3 : zgh_l1014_3.map Prod.fst = zgl_l1014_3 := rfl
theorem zge_l1014_4 : zgh_l1014_4.map Prod.fst = zgl_l1014_4 := rfl
theorem zge_l1014_5 : zgh_l1014_5.map Prod.fst = zgl_l1014_5 := rfl
theorem zge_l1014_6 : zgh_l1014_6.map Prod.fst = zgl_l1014_6 := rfl
theorem zge_l1014 : (zgh_l1014_0 ++ (zgh_l1014_1 ++ (zgh_l1014_2 ++ (zgh_l1014_3 ++ (zgh_l1014_4 ++ (zgh_l1014_5 ++ (zgh_l1014_6))))))).map Prod.fst = zgl_l1014 := by
  rw [List.map_append, zge_l1014_0, List.map_append, zge_l1014_1, List.map_append, zge_l1014_2, List.map_append, zge_l1014_3, List.map_append, zge_l1014_4, List.map_append, zge_l1014_5, zge_l1014_6]
  rfl
