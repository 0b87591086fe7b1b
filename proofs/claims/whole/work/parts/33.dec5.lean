/-! the law's decode rows -/
theorem dl_950 : decode code 950 = .ok (.invokevirtual 136, 3) := by decide +kernel
theorem dl_953 : decode code 953 = .ok (.if_icmp .eq 151, 3) := by decide +kernel
theorem dl_958 : decode code 958 = .ok (.aload_n 1, 1) := by decide +kernel
theorem dl_959 : decode code 959 = .ok (.aload_n 0, 1) := by decide +kernel
theorem dl_960 : decode code 960 = .ok (.iload_n 3, 1) := by decide +kernel
theorem dl_961 : decode code 961 = .ok (.iconst 1, 1) := by decide +kernel
theorem dl_962 : decode code 962 = .ok (.iadd, 1) := by decide +kernel
theorem dl_963 : decode code 963 = .ok (.iaload, 1) := by decide +kernel
theorem dl_964 : decode code 964 = .ok (.invokevirtual 137, 3) := by decide +kernel
theorem dl_967 : decode code 967 = .ok (.aload_n 2, 1) := by decide +kernel
theorem dl_968 : decode code 968 = .ok (.aload_n 0, 1) := by decide +kernel
theorem dl_969 : decode code 969 = .ok (.iload_n 3, 1) := by decide +kernel
theorem dl_970 : decode code 970 = .ok (.iconst 1, 1) := by decide +kernel
theorem dl_971 : decode code 971 = .ok (.iadd, 1) := by decide +kernel
theorem dl_972 : decode code 972 = .ok (.iaload, 1) := by decide +kernel
theorem dl_973 : decode code 973 = .ok (.invokevirtual 140, 3) := by decide +kernel
theorem dl_976 : decode code 976 = .ok (.if_icmp .eq 128, 3) := by decide +kernel
theorem dl_981 : decode code 981 = .ok (.aload_n 1, 1) := by decide +kernel
theorem dl_982 : decode code 982 = .ok (.aload_n 0, 1) := by decide +kernel
theorem dl_983 : decode code 983 = .ok (.iload_n 3, 1) := by decide +kernel
theorem dl_984 : decode code 984 = .ok (.iconst 1, 1) := by decide +kernel
theorem dl_985 : decode code 985 = .ok (.iadd, 1) := by decide +kernel
theorem dl_986 : decode code 986 = .ok (.iaload, 1) := by decide +kernel
theorem dl_987 : decode code 987 = .ok (.invokevirtual 141, 3) := by decide +kernel
theorem dl_990 : decode code 990 = .ok (.aload_n 2, 1) := by decide +kernel
theorem dl_991 : decode code 991 = .ok (.aload_n 0, 1) := by decide +kernel
theorem dl_992 : decode code 992 = .ok (.iload_n 3, 1) := by decide +kernel
theorem dl_993 : decode code 993 = .ok (.iconst 1, 1) := by decide +kernel
theorem dl_994 : decode code 994 = .ok (.iadd, 1) := by decide +kernel
theorem dl_995 : decode code 995 = .ok (.iaload, 1) := by decide +kernel
theorem dl_996 : decode code 996 = .ok (.invokevirtual 144, 3) := by decide +kernel
theorem dl_999 : decode code 999 = .ok (.if_icmp .eq 105, 3) := by decide +kernel
theorem dl_1004 : decode code 1004 = .ok (.aload_n 1, 1) := by decide +kernel
theorem dl_1005 : decode code 1005 = .ok (.aload_n 0, 1) := by decide +kernel
theorem dl_1006 : decode code 1006 = .ok (.iload_n 3, 1) := by decide +kernel
theorem dl_1007 : decode code 1007 = .ok (.iconst 1, 1) := by decide +kernel
theorem dl_1008 : decode code 1008 = .ok (.iadd, 1) := by decide +kernel
theorem dl_1009 : decode code 1009 = .ok (.iaload, 1) := by decide +kernel
theorem dl_1010 : decode code 1010 = .ok (.aload_n 0, 1) := by decide +kernel
theorem dl_1011 : decode code 1011 = .ok (.iload_n 3, 1) := by decide +kernel
theorem dl_1012 : decode code 1012 = .ok (.iconst 2, 1) := by decide +kernel
theorem dl_1013 : decode code 1013 = .ok (.iadd, 1) := by decide +kernel
theorem dl_1014 : decode code 1014 = .ok (.iaload, 1) := by decide +kernel
theorem dl_1015 : decode code 1015 = .ok (.invokevirtual 145, 3) := by decide +kernel
theorem dl_1018 : decode code 1018 = .ok (.aload_n 2, 1) := by decide +kernel
theorem dl_1019 : decode code 1019 = .ok (.aload_n 0, 1) := by decide +kernel
theorem dl_1020 : decode code 1020 = .ok (.iload_n 3, 1) := by decide +kernel
theorem dl_1021 : decode code 1021 = .ok (.iconst 1, 1) := by decide +kernel
theorem dl_1022 : decode code 1022 = .ok (.iadd, 1) := by decide +kernel
theorem dl_1023 : decode code 1023 = .ok (.iaload, 1) := by decide +kernel
theorem dl_1024 : decode code 1024 = .ok (.aload_n 0, 1) := by decide +kernel
theorem dl_1025 : decode code 1025 = .ok (.iload_n 3, 1) := by decide +kernel
theorem dl_1026 : decode code 1026 = .ok (.iconst 2, 1) := by decide +kernel
theorem dl_1027 : decode code 1027 = .ok (.iadd, 1) := by decide +kernel
theorem dl_1028 : decode code 1028 = .ok (.iaload, 1) := by decide +kernel
theorem dl_1029 : decode code 1029 = .ok (.invokevirtual 149, 3) := by decide +kernel
theorem dl_1032 : decode code 1032 = .ok (.lcmp, 1) := by decide +kernel
theorem dl_1033 : decode code 1033 = .ok (.ifCond .eq 71, 3) := by decide +kernel
theorem dl_1038 : decode code 1038 = .ok (.aload_n 1, 1) := by decide +kernel
theorem dl_1039 : decode code 1039 = .ok (.aload_n 0, 1) := by decide +kernel
theorem dl_1040 : decode code 1040 = .ok (.iload_n 3, 1) := by decide +kernel
theorem dl_1041 : decode code 1041 = .ok (.iconst 1, 1) := by decide +kernel
theorem dl_1042 : decode code 1042 = .ok (.iadd, 1) := by decide +kernel
theorem dl_1043 : decode code 1043 = .ok (.iaload, 1) := by decide +kernel
theorem dl_1044 : decode code 1044 = .ok (.aload_n 0, 1) := by decide +kernel
theorem dl_1045 : decode code 1045 = .ok (.iload_n 3, 1) := by decide +kernel
theorem dl_1046 : decode code 1046 = .ok (.iconst 2, 1) := by decide +kernel
theorem dl_1047 : decode code 1047 = .ok (.iadd, 1) := by decide +kernel
theorem dl_1048 : decode code 1048 = .ok (.iaload, 1) := by decide +kernel
theorem dl_1049 : decode code 1049 = .ok (.aload_n 0, 1) := by decide +kernel
theorem dl_1050 : decode code 1050 = .ok (.iload_n 3, 1) := by decide +kernel
theorem dl_1051 : decode code 1051 = .ok (.iconst 3, 1) := by decide +kernel
theorem dl_1052 : decode code 1052 = .ok (.iadd, 1) := by decide +kernel
theorem dl_1053 : decode code 1053 = .ok (.iaload, 1) := by decide +kernel
theorem dl_1054 : decode code 1054 = .ok (.invokevirtual 150, 3) := by decide +kernel
theorem dl_1057 : decode code 1057 = .ok (.aload_n 2, 1) := by decide +kernel
theorem dl_1058 : decode code 1058 = .ok (.aload_n 0, 1) := by decide +kernel
theorem dl_1059 : decode code 1059 = .ok (.iload_n 3, 1) := by decide +kernel
theorem dl_1060 : decode code 1060 = .ok (.iconst 1, 1) := by decide +kernel
theorem dl_1061 : decode code 1061 = .ok (.iadd, 1) := by decide +kernel
theorem dl_1062 : decode code 1062 = .ok (.iaload, 1) := by decide +kernel
theorem dl_1063 : decode code 1063 = .ok (.aload_n 0, 1) := by decide +kernel
theorem dl_1064 : decode code 1064 = .ok (.iload_n 3, 1) := by decide +kernel
theorem dl_1065 : decode code 1065 = .ok (.iconst 2, 1) := by decide +kernel
theorem dl_1066 : decode code 1066 = .ok (.iadd, 1) := by decide +kernel
theorem dl_1067 : decode code 1067 = .ok (.iaload, 1) := by decide +kernel
theorem dl_1068 : decode code 1068 = .ok (.aload_n 0, 1) := by decide +kernel
theorem dl_1069 : decode code 1069 = .ok (.iload_n 3, 1) := by decide +kernel
theorem dl_1070 : decode code 1070 = .ok (.iconst 3, 1) := by decide +kernel
theorem dl_1071 : decode code 1071 = .ok (.iadd, 1) := by decide +kernel
theorem dl_1072 : decode code 1072 = .ok (.iaload, 1) := by decide +kernel
theorem dl_1073 : decode code 1073 = .ok (.invokevirtual 153, 3) := by decide +kernel
theorem dl_1076 : decode code 1076 = .ok (.if_icmp .eq 28, 3) := by decide +kernel
theorem dl_1081 : decode code 1081 = .ok (.aload_n 1, 1) := by decide +kernel
theorem dl_1082 : decode code 1082 = .ok (.aload_n 0, 1) := by decide +kernel
theorem dl_1083 : decode code 1083 = .ok (.iload_n 3, 1) := by decide +kernel
theorem dl_1084 : decode code 1084 = .ok (.iconst 1, 1) := by decide +kernel
theorem dl_1085 : decode code 1085 = .ok (.iadd, 1) := by decide +kernel
theorem dl_1086 : decode code 1086 = .ok (.iaload, 1) := by decide +kernel
theorem dl_1087 : decode code 1087 = .ok (.invokevirtual 154, 3) := by decide +kernel
theorem dl_1090 : decode code 1090 = .ok (.aload_n 2, 1) := by decide +kernel
theorem dl_1091 : decode code 1091 = .ok (.aload_n 0, 1) := by decide +kernel
theorem dl_1092 : decode code 1092 = .ok (.iload_n 3, 1) := by decide +kernel
theorem dl_1093 : decode code 1093 = .ok (.iconst 1, 1) := by decide +kernel
theorem dl_1094 : decode code 1094 = .ok (.iadd, 1) := by decide +kernel
theorem dl_1095 : decode code 1095 = .ok (.iaload, 1) := by decide +kernel
theorem dl_1096 : decode code 1096 = .ok (.invokevirtual 157, 3) := by decide +kernel
theorem dl_1099 : decode code 1099 = .ok (.if_icmp .eq 5, 3) := by decide +kernel
theorem dl_1104 : decode code 1104 = .ok (.iinc 3 4, 3) := by decide +kernel
theorem dl_1107 : decode code 1107 = .ok (.goto (-1089), 3) := by decide +kernel
